/-! both: both sides -/
section B1
variable {nx : Int → Int → Int} {val : Int → Int → Int → Int} {nw to k0 lim en aims p wt : Int}
/-- what lives has been reached -/
def Jt (lim : Int) (st : Sst) : Prop := st.1 ≤ lim ∧ ∀ j, st.2.2.2.2 j = true → st.2.2.2.1 j ≤ lim
theorem Jt_ofr (hl : -1 ≤ lim) {st : Sst} {k v : Int} (h : Jt lim st) : Jt lim (ofr aims to st k v) := by
  rw [ofr]
  split
  · next z =>
    refine ⟨?_, fun j hj => ?_⟩
    · show (if k % 100 = to then (if aims = 0 then st.1 else if aims = 1 then v - 1 else -1) else st.1) ≤ lim
      have := h.1
      split
      · split
        · exact this
        · split <;> omega
      · exact this
    · show upI st.2.2.2.1 k v j ≤ lim
      replace hj : upI st.2.2.2.2 k true j = true := hj
      by_cases q : j = k
      · subst q; rw [upI_s]; have := h.1; omega
      · rw [upI_n q] at hj ⊢; exact h.2 j hj
  · exact h
theorem Jt_ofp (hl : -1 ≤ lim) {st : Sst} {k w : Int} {f : Int → Int} (h : Jt lim st) : Jt lim (ofp aims to en nx f k st w) := by
  rw [ofp]
  split
  · exact Jt_ofr hl h
  · exact h
theorem Jt_of4 (hl : -1 ≤ lim) {st : Sst} {k : Int} {f : Int → Int} (h : Jt lim st) : ∀ n, Jt lim (of4 aims to en nx f k st n)
  | 0 => h
  | n + 1 => by simp only [of4]; exact Jt_ofp hl (Jt_of4 hl h n)
theorem Jt_gon (hl : -1 ≤ lim) {st : Sst} {k : Int} (h : Jt lim st) : Jt lim (gon aims to en wt nx val k st) := by
  rw [gon]
  split
  · exact h
  · refine Jt_of4 hl ?_ _
    split
    · exact h
    · exact Jt_ofp hl h
theorem Jt_rst (hl : -1 ≤ lim) {st : Sst} {a : Int} (h : Jt lim st) : ∀ n, Jt lim (rst (fun k st => gon aims to en wt nx val k st) st a n)
  | 0 => h
  | n + 1 => by
    simp only [rst]
    split
    · exact Jt_gon hl (Jt_rst hl h n)
    · exact Jt_rst hl h n
theorem stB_t {f0 : Int → Int} {cost fi fr bym : Int} (hl : -1 ≤ lim) : Jt lim (stB f0 aims to lim cost fi fr bym) := by
  have h0 : Jt lim (st0 f0 lim cost) := ⟨Int.le_refl _, fun j hj => absurd (show false = true from hj) (by decide)⟩
  rw [stB]
  split
  · exact Jt_ofr hl h0
  · exact h0
theorem stB_6 {f0 : Int → Int} {cost fi fr bym : Int} (hf : 0 ≤ fi ∧ fi < 120) (hfr : 0 ≤ fr ∧ fr < 100) (H : Hyp nx val nw to (100 * fi + fr) lim 1 p) (hb : fi ≤ bym) (hl : 0 ≤ lim) : J6 nx val nw to (100 * fi + fr) lim en p (100 * fi) (stB f0 1 to lim cost fi fr bym) := by
  obtain ⟨G, V, hlim, hp, h0, h1, ha, hto⟩ := H
  have ht := hto (by decide)
  have e : stB f0 1 to lim cost fi fr bym = (if fr = to then -1 else lim, if fr = to then 0 else cost, if fr = to then fi else -1, upI (flA f0 0 12000 268435456) (100 * fi + fr) 0, upI (fun _ => false) (100 * fi + fr) true) := by
    rw [stB, if_pos hb, ofr, if_pos]
    · simp only [st0, show (100 * fi + fr) % 100 = fr by omega, show (100 * fi + fr) / 100 = fi by omega]
      by_cases q : fr = to
      · simp [q]
      · simp [q]
    · exact ⟨hl, by show (0 : Int) < flA f0 0 12000 268435456 (100 * fi + fr); rw [flA_in (by omega)]; decide⟩
  have R : ∀ m, 0 ≤ m → m < 120 → (100 * m + to = 100 * fi + fr ∧ (stB f0 1 to lim cost fi fr bym).2.2.2.1 (100 * m + to) = 0) ∨ (100 * m + to ≠ 100 * fi + fr ∧ (stB f0 1 to lim cost fi fr bym).2.2.2.1 (100 * m + to) = 268435456) := by
    intro m a b
    rw [e]
    show (100 * m + to = 100 * fi + fr ∧ upI (flA f0 0 12000 268435456) (100 * fi + fr) 0 (100 * m + to) = 0) ∨ (100 * m + to ≠ 100 * fi + fr ∧ upI (flA f0 0 12000 268435456) (100 * fi + fr) 0 (100 * m + to) = 268435456)
    by_cases q : 100 * m + to = 100 * fi + fr
    · left; rw [q, upI_s]; exact ⟨rfl, rfl⟩
    · right; rw [upI_n q, flA_in (by omega)]; exact ⟨q, rfl⟩
  have Q := fun n k v q => qv_rng (en := en) G V hlim h0 h1 n k v q
  have ar : (stB f0 1 to lim cost fi fr bym).2.2.1 = if fr = to then fi else -1 := by rw [e]
  refine ⟨fun m a b c n m' v d q => ?_, fun m a b c => ⟨fun d n v q => ?_, fun d n v q => ?_⟩, fun m a b c => ?_, ?_⟩
  · have := Q n _ v q
    rcases R m a b with z | z <;> omega
  · have := Q n _ v q
    rcases R m a b with z | z <;> omega
  · have qr := Q n _ v q
    rcases R m a b with z | z
    · omega
    · by_cases hft : fr = to
      · refine ⟨fi, hf.1, by omega, ?_⟩
        rcases R fi hf.1 hf.2 with y | y
        · omega
        · omega
      · cases n with
        | zero => have := q.1; omega
        | succ n =>
          obtain ⟨j, u, w, hj, htj, w0, w1, hn, ek, ev, hl', he'⟩ := q
          have jr := Q n j u hj
          have g := G j w jr.1 jr.2.1 w0 w1 hn
          have := g.2.2.2 (by omega) htj
          omega
  · rw [ar] at c
    rcases R m a b with z | z
    · split at c <;> omega
    · omega
  · rw [ar]; split <;> omega
end B1
/-- an arrival that no earlier one is as good as -/
def impP (nx cs : Int → Int → Int) (to k0 m : Int) : Prop := ∃ ws c, pt nx cs 5 to ws k0 (100 * m + to) c ∧ ∀ ws' m' c', 0 ≤ m' → m' < m → pt nx cs 5 to ws' k0 (100 * m' + to) c' → c < c'
/-- the i-th of those -/
def nthA (P : Int → Prop) (i T : Int) : Prop := (T = -1 ∧ ∀ m : Nat, m < 120 → P m → cntC P m ≠ i) ∨ (0 ≤ T ∧ T < 120 ∧ P T ∧ cntC P T.toNat = i)
theorem cntC_mono (P : Int → Prop) (a : Nat) : ∀ b : Nat, cntC P a ≤ cntC P (a + b)
  | 0 => Int.le_refl _
  | b + 1 => by
    have := cntC_mono P a b
    rw [show a + (b + 1) = (a + b) + 1 from rfl, cntC]
    by_cases h : P ((a + b : Nat) : Int)
    · rw [if_pos h]; omega
    · rw [if_neg h]; omega
theorem cntC_lt (P : Int → Prop) {a b : Nat} (h : a < b) (ha : P a) : cntC P a < cntC P b := by
  have := cntC_mono P (a + 1) (b - (a + 1))
  rw [show a + 1 + (b - (a + 1)) = b by omega, cntC, if_pos ha] at this
  omega
theorem nthA_uni {P : Int → Prop} {i T T' : Int} (h : nthA P i T) (h' : nthA P i T') : T = T' := by
  have ca : ∀ T : Int, 0 ≤ T → ((T.toNat : Nat) : Int) = T := fun T z => by omega
  rcases h with h | ⟨h1, h2, h3, h4⟩
  · rcases h' with h' | ⟨g1, g2, g3, g4⟩
    · omega
    · exact absurd g4 (h.2 T'.toNat (by omega) (by rw [ca T' g1]; exact g3))
  · rcases h' with h' | ⟨g1, g2, g3, g4⟩
    · exact absurd h4 (h'.2 T.toNat (by omega) (by rw [ca T h1]; exact h3))
    · by_cases a : T < T'
      · have := cntC_lt P (a := T.toNat) (b := T'.toNat) (by omega) (by rw [ca T h1]; exact h3); omega
      · by_cases b : T' < T
        · have := cntC_lt P (a := T'.toNat) (b := T.toNat) (by omega) (by rw [ca T' g1]; exact g3); omega
        · omega
noncomputable def nthC (P : Int → Prop) (i : Int) : Int := @dite _ (∃ T, nthA P i T) (Classical.propDecidable _) (fun h => Classical.choose h) (fun _ => -1)
theorem nthC_eq {P : Int → Prop} {i T : Int} (h : nthA P i T) : T = nthC P i := by
  have e : ∃ T, nthA P i T := ⟨T, h⟩
  rw [nthC, dif_pos e]
  exact nthA_uni h (Classical.choose_spec e)
theorem nthC_cg {P Q : Int → Prop} {i : Int} (h : ∀ m : Int, 0 ≤ m → m < 120 → (P m ↔ Q m)) {T : Int} (hA : nthA P i T) : nthA Q i T := by
  have hc : ∀ n : Nat, n ≤ 120 → cntC P n = cntC Q n := by
    intro n
    induction n with
    | zero => intro _; rfl
    | succ n ih =>
      intro hn
      rw [cntC, cntC, ih (by omega)]
      by_cases q : P n
      · rw [if_pos q, if_pos ((h n (by omega) (by omega)).mp q)]
      · rw [if_neg q, if_neg (fun z => q ((h n (by omega) (by omega)).mpr z))]
  rcases hA with z | ⟨z1, z2, z3, z4⟩
  · exact Or.inl ⟨z.1, fun m hm q => by rw [← hc m (by omega)]; exact z.2 m hm ((h m (by omega) (by omega)).mpr q)⟩
  · exact Or.inr ⟨z1, z2, (h T z1 z2).mp z3, by rw [← hc _ (by omega)]; exact z4⟩
/-- the least to come to a node -/
noncomputable def rcC (nx cs : Int → Int → Int) (to k0 k : Int) : Int := @dite _ (∃ r, Rch nx cs 5 to k0 k r) (Classical.propDecidable _) (fun h => Classical.choose h) (fun _ => 1000000)
theorem rcC_eq {nx cs : Int → Int → Int} {to k0 k r : Int} (h : Rch nx cs 5 to k0 k r) : r = rcC nx cs to k0 k := by
  have e : ∃ r, Rch nx cs 5 to k0 k r := ⟨r, h⟩
  rw [rcC, dif_pos e]
  exact Rch_uni h (Classical.choose_spec e)
section B2
variable {pl : Pool} {tw : Int → Int} {vf : Int → Int → Int → Int32} {sl : Int} {kd hg : Int → Int} {wks : Nat → Option Nat} {shw : Nat → Int64} {ex nt : Int → Int} {ww sw gw : Nat → Int64} {op arg : Nat → Int32}
/-- the class's search, with what BOTH needs of it -/
theorem p_seek6 (C : CS pl tw vf sl kd hg wks shw ex nt ww sw gw) {wk d m fr to : Int} (t : tripP tw wk d m fr to) {dw : Nat → Int64} (hdw : dwR shw dw d) {cost : Int} (hc : -2147483648 ≤ cost ∧ cost < 2147483648) {x1 x2 x3 : Int32} {lw : Nat → Int64} {t1 : Nat → Int32} {post : Int32 → Int32 → Int32 → Int32 → Int32 → (Nat → Int64) → (Nat → Int32) → Prop}
    (h : ∀ (a : Int) (R : Int → Int) (L : Int → Bool) (lw' : Nat → Int64) (y1 y2 y3 : Int32), (a = -1 → ∀ m', 0 ≤ m' → m' < 120 → ¬ impP (nxT tw (shC tw vf d) (tw (383 + 7 * wk))) (csT (snC tw vf d) (tw (383 + 7 * wk))) to (100 * m + fr) m') → (a ≠ -1 → (∀ m', 0 ≤ m' → m' < 120 → (L (100 * m' + to) = true ↔ impP (nxT tw (shC tw vf d) (tw (383 + 7 * wk))) (csT (snC tw vf d) (tw (383 + 7 * wk))) to (100 * m + fr) m')) ∧ (∀ m', 0 ≤ m' → m' < 120 → L (100 * m' + to) = true → R (100 * m' + to) = rcC (nxT tw (shC tw vf d) (tw (383 + 7 * wk))) (csT (snC tw vf d) (tw (383 + 7 * wk))) to (100 * m + fr) (100 * m' + to))) → LR lw' L → post (if a = -1 then 0 else 1) y1 y2 y3 (zi a) lw' (zA R)) :
    wp_X9_seekLeast false (zi d) (zi m) (zi fr) (zi to) 1 0 1 dw (zA ex) (zA nt) (zi sl) ww sw (zi (tw (383 + 7 * wk))) (zi (tw (384 + 7 * wk))) (zi (tw (385 + 7 * wk))) x1 x2 (zi cost) x3 lw t1 119 post := by
  obtain ⟨t1', t2', t3', t4', t5'⟩ := t
  have A := CS_ask C (wk := wk) (to := to) (aims := 1) (hot := 1) (cool := 0) (wt := 1) (en := 119) t2' (by omega) (by omega) t1' (by omega) (by omega) (by omega) (by omega)
  have hp := A.2.2.2.2.2.2.2.2.2.2.2.1
  have hcB : cB (costF false 1 0 dw ex) := cB_cost A.2.2.1 A.2.2.2.1 A.2.2.2.2.2.2.1
  obtain ⟨f0, rfl, -⟩ := zA_ex t1
  have G := Gok_T (tw := tw) (sh := shC tw vf d) (nw := 5) hp hcB
  have AG := Agr_symm (CS_agr C (nw := 5) hp t2' hdw)
  have G0 := Gok_T (tw := tw) (sh := shC tw vf d) (nw := 5) hp (snC_cB tw vf d)
  have toC := fun ws k c q => pt_agr (to := to) AG G ws (100 * m + fr) k c (by omega) (by omega) q
  have ofC := fun ws k c q => pt_agr (to := to) (Agr_symm AG) G0 ws (100 * m + fr) k c (by omega) (by omega) q
  generalize hnx : nxT tw (shC tw vf d) (tw (383 + 7 * wk)) = nx at *
  have hv : ∀ k w v, valF false 1 0 1 dw ex (tw (384 + 7 * wk)) (tw (385 + 7 * wk)) ww nx (tw (383 + 7 * wk)) k w v = v + csT (costF false 1 0 dw ex) (tw (383 + 7 * wk)) k w := fun k w v => valF_cost (by decide)
  have H : Hyp nx (fun k w v => valF false 1 0 1 dw ex (tw (384 + 7 * wk)) (tw (385 + 7 * wk)) ww nx (tw (383 + 7 * wk)) k w v) 5 to (100 * m + fr) 268435455 1 (tw (383 + 7 * wk)) := by
    subst hnx
    exact ⟨Gv_T hp, Vv_cost (by decide) hp hcB hv, by omega, hp.1, by omega, by omega, by omega, fun _ => t5'.1⟩
  have hb01 : ∀ x : Int, b01 (if x = -1 then 0 else 1) := fun x => by split; exact Or.inl rfl; exact Or.inr rfl
  simp only [wp_X9_seekLeast]
  refine p_begin (aim := 1) (lim := 268435455) (bym := 119) (by omega) (by omega) (by omega) hc t3' t4'.1 (by omega) (fun lw' hL => ?_)
  have hQ : Qok tw 1 (tw (384 + 7 * wk)) (stB f0 1 to 268435455 cost m fr 119) := stB_q (by omega) (by omega) hc t3' t4'.1 (fun z => by omega) t4'.2
  refine p_run (bym := 119) (eb := false) (ww := ww) (dw := dw) A hQ hL t3' (by omega) rfl (fun q lw2 hq hL2 => ⟨hb01 _, ?_⟩)
  rw [gonC_eq, hnx] at hq
  obtain ⟨J0, L0⟩ := stB_J (f0 := f0) (cost := cost) (en := 119) (bym := 119) t3' t4'.1 H (by omega) (by omega) (by omega)
  have I6 := stB_6 (f0 := f0) (cost := cost) (en := 119) (bym := 119) t3' t4'.1 H (by omega) (by omega)
  have E := J_rst (wt := 1) H rfl (by omega) (by omega) J0 (100 * (119 + 1 - m)).toNat (by omega)
  have E6 := J6_rst (wt := 1) H rfl (by omega) (by omega) J0 I6 rfl (by omega) (100 * (119 + 1 - m)).toNat (by omega)
  have El := Jl_rst (aims := 1) (to := to) (en := 119) (wt := 1) (nx := nx) (val := fun k w v => valF false 1 0 1 dw ex (tw (384 + 7 * wk)) (tw (385 + 7 * wk)) ww nx (tw (383 + 7 * wk)) k w v) (a := 100 * m) L0 (100 * (119 + 1 - m)).toNat
  have Et := Jt_rst (aims := 1) (to := to) (en := 119) (wt := 1) (nx := nx) (val := fun k w v => valF false 1 0 1 dw ex (tw (384 + 7 * wk)) (tw (385 + 7 * wk)) ww nx (tw (383 + 7 * wk)) k w v) (a := 100 * m) (show (-1 : Int) ≤ 268435455 by decide) (stB_t (f0 := f0) (cost := cost) (fi := m) (fr := fr) (bym := 119) (to := to) (aims := 1) (show (-1 : Int) ≤ 268435455 by decide)) (100 * (119 + 1 - m)).toNat
  rw [← hq] at E E6 El Et
  have ek : 100 * m + (((100 * (119 + 1 - m)).toNat : Nat) : Int) = 12000 := by omega
  rw [ek] at E E6
  obtain ⟨E1, E2, E3⟩ := E
  obtain ⟨S1, S2, S3, S4⟩ := E6
  have qp : ∀ n k v, qv nx (fun k w v => valF false 1 0 1 dw ex (tw (384 + 7 * wk)) (tw (385 + 7 * wk)) ww nx (tw (383 + 7 * wk)) k w v) 5 to (100 * m + fr) 268435455 119 n k v → ∃ ws, pt nx (csT (snC tw vf d) (tw (383 + 7 * wk))) 5 to ws (100 * m + fr) k v := fun n k v x => by obtain ⟨ws, y⟩ := qv_pt hv n k v x; exact ⟨ws, toC ws k v y⟩
  have pq : ∀ ws k v, k / 100 ≤ 119 → pt nx (csT (snC tw vf d) (tw (383 + 7 * wk))) 5 to ws (100 * m + fr) k v → qv nx (fun k w v => valF false 1 0 1 dw ex (tw (384 + 7 * wk)) (tw (385 + 7 * wk)) ww nx (tw (383 + 7 * wk)) k w v) 5 to (100 * m + fr) 268435455 119 ws.length k v := fun ws k v hk x => by
    have y := ofC ws k v x
    have r := pt_rng G ws _ k v (by omega) (by omega) y
    exact pt_qv G hv (by omega) (by omega) ws.length ws k v rfl y (by omega) hk
  have rng : ∀ ws k v, pt nx (csT (snC tw vf d) (tw (383 + 7 * wk))) 5 to ws (100 * m + fr) k v → 0 ≤ v ∧ v ≤ 119000 := fun ws k v x => by have := pt_rng G0 ws _ k v (by omega) (by omega) x; omega
  have exact1 : ∀ m', 0 ≤ m' → m' < 120 → q.2.2.2.2 (100 * m' + to) = true → ∃ ws, pt nx (csT (snC tw vf d) (tw (383 + 7 * wk))) 5 to ws (100 * m + fr) (100 * m' + to) (q.2.2.2.1 (100 * m' + to)) := by
    intro m' a b hl
    have le := Et.2 _ hl
    obtain ⟨n, v, x, y⟩ := E1.2.2.1 _ (by omega) (by omega) le
    have z := (S2 m' a b (by omega)).1 le n v x
    obtain ⟨ws, u⟩ := qp n _ v x
    exact ⟨ws, by rw [show q.2.2.2.1 (100 * m' + to) = v by omega]; exact u⟩
  refine h q.2.2.1 q.2.2.2.1 q.2.2.2.2 lw2 1 (zi q.1) (zi q.2.1) (fun har m' a b im => ?_) (fun _ => ⟨fun m' a b => ⟨fun hl => ?_, fun im => ?_⟩, fun m' a b hl => ?_⟩) hL2
  · obtain ⟨ws, c, x, y⟩ := im
    have xq := pq ws _ c (by omega) x
    have r := rng _ _ _ x
    rcases E2 (by decide) with z | z
    · have f := found H.1 H.2.1 (by omega) hp.1 (by omega) (by omega) E1 E3 ws.length _ c xq (by omega) (Or.inl (by omega))
      have := E1.2.2.2.1 (by decide) m' a b
      omega
    · omega
  · obtain ⟨ws, u⟩ := exact1 m' a b hl
    refine ⟨ws, _, u, fun ws' m'' c' a' b' x => ?_⟩
    exact S1 m' a b (Et.2 _ hl) _ m'' c' b' (pq ws' _ c' (by omega) x)
  · obtain ⟨ws, c, x, y⟩ := im
    have r := rng _ _ _ x
    cases hl : q.2.2.2.2 (100 * m' + to) with
    | true => rfl
    | false =>
      have far := El _ (by omega) (by omega) hl
      obtain ⟨m'', a', b', u⟩ := (S2 m' a b (by omega)).2 (by omega) _ c (pq ws _ c (by omega) x)
      obtain ⟨n, v, g, e⟩ := E1.2.2.1 (100 * m'' + to) (by omega) (by omega) (by omega)
      obtain ⟨ws', z⟩ := qp n _ v g
      have := y ws' m'' v a' b' z
      omega
  · obtain ⟨ws, u⟩ := exact1 m' a b hl
    have r := rng _ _ _ u
    exact rcC_eq ⟨fun _ => ⟨ws, u⟩, fun ws' c' x => (S2 m' a b (by omega)).1 (Et.2 _ hl) _ c' (pq ws' _ c' (by omega) x), by omega⟩
end B2
