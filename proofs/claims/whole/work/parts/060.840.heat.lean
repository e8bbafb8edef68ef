/-! heat -/
def htN (bears mends : Int) (dw : Nat → Int64) (v k : Int) : Nat → Int
  | 0 => v
  | n + 1 => heatF bears mends dw (htN bears mends dw v k n) (k + 100 * n)
def hV (dw : Nat → Int64) (bears mends : Int) (ww : Nat → Int64) (nx : Int → Int → Int) (p k w v : Int) : Int :=
  if w = 4 then heatF bears mends dw v k else if watF ww (nx k w % 100) = true ∧ htN bears mends dw v k p.toNat ≤ bears then 0 else htN bears mends dw v k p.toNat
section HT
variable {eb : Bool} {day to hot cool wt : Int} {dw : Nat → Int64} {ex nt tw sh : Int → Int} {sl : Int} {ww sw gw lw : Nat → Int64} {p bears mends en nw lim : Int}
theorem aftN_3 {v k : Int} : ∀ n : Nat, aftN eb hot cool 3 dw ex bears mends v k n = htN bears mends dw v k n
  | 0 => rfl
  | n + 1 => by simp only [aftN, htN, aftF, if_true]; rw [aftN_3 n]
theorem valF_3 {nx : Int → Int → Int} {k w v : Int} : valF eb hot cool 3 dw ex bears mends ww nx p k w v = hV dw bears mends ww nx p k w v := by
  simp only [valF, hV, aftF, if_true, aftN_3, true_and]
theorem heatF_rng (hb : 0 ≤ bears ∧ bears ≤ 99) (hm : 0 ≤ mends) {v k : Int} (hv : 0 ≤ v) : 0 ≤ heatF bears mends dw v k ∧ (heatF bears mends dw v k ≤ bears ∨ heatF bears mends dw v k = 268435456) := by
  simp only [heatF]
  have hu : 0 ≤ (if dkF dw k = true then if 0 < v - mends then v - mends else 0 else v + 1) := by
    split
    · split <;> omega
    · omega
  generalize (if dkF dw k = true then if 0 < v - mends then v - mends else 0 else v + 1) = u at *
  by_cases h : u ≤ bears
  · rw [if_pos h]; exact ⟨hu, Or.inl h⟩
  · rw [if_neg h]; exact ⟨by decide, Or.inr rfl⟩
theorem heatF_mono (hb : 0 ≤ bears ∧ bears ≤ 99) (hm : 0 ≤ mends) {v v' k : Int} (hv : v ≤ v') : heatF bears mends dw v k ≤ heatF bears mends dw v' k := by
  simp only [heatF]
  have : (if dkF dw k = true then if 0 < v - mends then v - mends else 0 else v + 1) ≤ (if dkF dw k = true then if 0 < v' - mends then v' - mends else 0 else v' + 1) := by
    split
    · split <;> split <;> omega
    · omega
  generalize (if dkF dw k = true then if 0 < v - mends then v - mends else 0 else v + 1) = a at *
  generalize (if dkF dw k = true then if 0 < v' - mends then v' - mends else 0 else v' + 1) = b at *
  split <;> split <;> omega
theorem heatF_far (hb : 0 ≤ bears ∧ bears ≤ 99) (hm : 0 ≤ mends ∧ mends ≤ 99) {v k : Int} (hv : 1000 ≤ v) : heatF bears mends dw v k = 268435456 := by
  simp only [heatF]
  rw [if_neg]
  split
  · split <;> omega
  · omega
theorem htN_rng (hb : 0 ≤ bears ∧ bears ≤ 99) (hm : 0 ≤ mends) {v k : Int} (hv : 0 ≤ v ∧ (v ≤ bears ∨ v = 268435456)) : ∀ n : Nat, 0 ≤ htN bears mends dw v k n ∧ (htN bears mends dw v k n ≤ bears ∨ htN bears mends dw v k n = 268435456)
  | 0 => hv
  | n + 1 => heatF_rng hb hm (htN_rng hb hm hv n).1
theorem htN_mono (hb : 0 ≤ bears ∧ bears ≤ 99) (hm : 0 ≤ mends) {v v' k : Int} (hv : v ≤ v') : ∀ n : Nat, htN bears mends dw v k n ≤ htN bears mends dw v' k n
  | 0 => hv
  | n + 1 => heatF_mono hb hm (htN_mono hb hm hv n)
theorem htN_far (hb : 0 ≤ bears ∧ bears ≤ 99) (hm : 0 ≤ mends ∧ mends ≤ 99) {v k : Int} : ∀ n i : Nat, i ≤ n → htN bears mends dw v k i = 268435456 → htN bears mends dw v k n = 268435456
  | 0, i, hi, h => by have : i = 0 := by omega
                      subst this; exact h
  | n + 1, i, hi, h => by
    by_cases hin : i = n + 1
    · subst hin; exact h
    · have ih := htN_far hb hm n i (by omega) h
      simp only [htN]
      rw [ih]
      exact heatF_far hb hm (by decide)
theorem hV_mono (hb : 0 ≤ bears ∧ bears ≤ 99) (hm : 0 ≤ mends) {nx : Int → Int → Int} {k w v v' : Int} (h0 : 0 ≤ v) (hv : v ≤ v') : 0 ≤ hV dw bears mends ww nx p k w v ∧ hV dw bears mends ww nx p k w v ≤ hV dw bears mends ww nx p k w v' := by
  have nn : ∀ (u : Int) (n : Nat), 0 ≤ u → 0 ≤ htN bears mends dw u k n := by
    intro u n hu
    induction n with
    | zero => exact hu
    | succ n ih => exact (heatF_rng hb hm ih).1
  simp only [hV]
  by_cases h4 : w = 4
  · rw [if_pos h4, if_pos h4]
    exact ⟨(heatF_rng hb hm h0).1, heatF_mono hb hm hv⟩
  · rw [if_neg h4, if_neg h4]
    have a := htN_mono (dw := dw) (k := k) hb hm hv p.toNat
    have b := nn v p.toNat h0
    have c := nn v' p.toNat (by omega)
    by_cases hw : watF ww (nx k w % 100) = true
    · simp only [hw, true_and]
      split <;> split <;> omega
    · simp only [hw, false_and, if_false]
      exact ⟨b, a⟩
theorem Vv_heat (hb : 0 ≤ bears ∧ bears ≤ 99) (hm : 0 ≤ mends ∧ mends ≤ 99) {nx : Int → Int → Int} (hp : 1 ≤ p) : Vv nx (fun k w v => hV dw bears mends ww nx p k w v) nw bears 3 := by
  refine ⟨fun k w u u' _ _ _ _ _ u0 hu _ => hV_mono hb hm.1 u0 hu, fun k w u ms _ _ _ _ _ u0 _ h3 h => ?_⟩
  have q := h3 rfl
  have nn := (hV_mono (dw := dw) (ww := ww) (nx := nx) (p := p) (k := k) (w := w) hb hm.1 u0 (Int.le_refl u)).1
  rcases q.2 with z | z
  · rcases q.1 with y | y
    · omega
    · subst y
      exfalso
      have hz : hV dw bears mends ww nx p k w 268435456 = 268435456 := by
        simp only [hV]
        have e : htN bears mends dw 268435456 k p.toNat = 268435456 := htN_far hb hm p.toNat 0 (Nat.zero_le _) rfl
        rw [e]
        split
        · exact heatF_far hb hm (by decide)
        · rw [if_neg (by omega)]
      replace h : hV dw bears mends ww nx p k w 268435456 ≤ ms := h
      omega
  · replace h : hV dw bears mends ww nx p k w u ≤ ms := h
    omega
/-- the soonest minute that can be borne, -1 for none -/
def Brs (nx : Int → Int → Int) (val : Int → Int → Int → Int) (to k0 bears T : Int) : Prop :=
  (T = -1 ∧ ∀ n m v, 0 ≤ m → m < 120 → ¬ qv nx val 5 to k0 bears 119 n (100 * m + to) v) ∨ (0 ≤ T ∧ T < 120 ∧ (∃ n v, qv nx val 5 to k0 bears 119 n (100 * T + to) v) ∧ ∀ n m v, 0 ≤ m → m < T → ¬ qv nx val 5 to k0 bears 119 n (100 * m + to) v)
theorem Brs_uni {nx : Int → Int → Int} {val : Int → Int → Int → Int} {k0 T T' : Int} (h : Brs nx val to k0 bears T) (h' : Brs nx val to k0 bears T') : T = T' := by
  rcases h with h | ⟨h1, h2, ⟨n, v, h3⟩, h4⟩
  · rcases h' with h' | ⟨g1, g2, ⟨n', v', g3⟩, g4⟩
    · omega
    · exact absurd g3 (h.2 n' T' v' g1 g2)
  · rcases h' with h' | ⟨g1, g2, ⟨n', v', g3⟩, g4⟩
    · exact absurd h3 (h'.2 n T v h1 h2)
    · rcases Int.lt_trichotomy T T' with z | z | z
      · exact absurd h3 (g4 n T v h1 z)
      · exact z
      · exact absurd g3 (h4 n' T' v' g1 z)
theorem p_bearable (A : Ask day to hot cool wt 3 ex nt tw sh sl sw p bears mends en) (hto : 0 ≤ to ∧ to < 100) (hwt : wt ≠ 0) {cost fi fr : Int} (hc : -2147483648 ≤ cost ∧ cost < 2147483648) (hf : 0 ≤ fi ∧ fi < 120) (hfr : 0 ≤ fr ∧ fr < 100) (ht : tw fr ≠ 1) (hen : en = 119) {x1 x2 x3 : Int32} {lw : Nat → Int64} {t1 : Nat → Int32} {post : Int32 → Int32 → Int32 → Int32 → (Nat → Int64) → (Nat → Int32) → Prop}
    (h : ∀ (q : Sst) (lw' : Nat → Int64), Brs (nxT tw sh p) (fun k w v => hV dw bears mends ww (nxT tw sh p) p k w v) to (100 * fi + fr) bears q.2.2.1 → Sok q → post 3 (zi q.1) (zi q.2.1) (zi q.2.2.1) lw' (zA q.2.2.2.1)) :
    wp_X9_seekBearable eb (zi day) (zi fi) (zi fr) (zi to) (zi hot) (zi cool) (zi wt) dw (zA ex) (zA nt) (zi sl) ww sw (zi p) (zi bears) (zi mends) x1 x2 (zi cost) x3 lw t1 post := by
  obtain ⟨f0, rfl, -⟩ := zA_ex t1
  have hp := A.2.2.2.2.2.2.2.2.2.2.2.1
  have hb := A.2.2.2.2.2.2.2.2.2.2.2.2.1
  have hm := A.2.2.2.2.2.2.2.2.2.2.2.2.2.1
  simp only [wp_X9_seekBearable]
  refine p_begin (aim := 3) (bym := 119) (by omega) (by omega) (by omega) hc hf hfr (by omega) (fun lw' hL => ?_)
  have hQ : Qok tw 3 bears (stB f0 3 to bears cost fi fr 119) := stB_q (by omega) (by omega) hc hf hfr (fun _ => rfl) ht
  refine p_run (bym := 119) A hQ hL hf (by omega) (by rw [hen]; rfl) (fun q lw2 hq hL2 => ?_)
  have hQ2 : Qok tw 3 bears q := by rw [hq]; exact rst_q A hQ (by omega) _ (by omega)
  have ev : (fun k w v => valF eb hot cool 3 dw ex bears mends ww (nxT tw sh p) p k w v) = fun k w v => hV dw bears mends ww (nxT tw sh p) p k w v := by
    funext k w v; exact valF_3
  have H : Hyp (nxT tw sh p) (fun k w v => hV dw bears mends ww (nxT tw sh p) p k w v) 5 to (100 * fi + fr) bears 3 p := ⟨Gv_T hp, Vv_heat hb hm hp.1, by omega, hp.1, by omega, by omega, by omega, fun _ => hto⟩
  obtain ⟨J0, L0⟩ := stB_J (f0 := f0) (cost := cost) (en := en) (bym := 119) hf hfr H (by omega) (by omega) hb.1
  rw [gonC_eq, ev] at hq
  obtain ⟨J1, J2, J3⟩ := J_end (en := en) (wt := wt) H (by rw [if_neg hwt]) ⟨hf.1, by omega, by omega⟩ (by omega) J0 hq
  have G : Gv (nxT tw sh p) 5 to p := Gv_T hp
  refine h q lw2 ?_ hQ2.1
  have hle : ∀ n k v, qv (nxT tw sh p) (fun k w v => hV dw bears mends ww (nxT tw sh p) p k w v) 5 to (100 * fi + fr) bears en n k v → v ≤ bears := by
    intro n k v hq2
    have r := qv_rng G H.2.1 H.2.2.1 (by omega) (by omega) n k v hq2
    by_cases hn : n = 0
    · subst hn; have := hq2.2; omega
    · exact r.2.2.2.2.1 hn
  subst hen
  rcases J2 (by decide) with z | ⟨z1, z2, z3, z4, z5, z6, z7, z8⟩
  · refine Or.inl ⟨z.1, fun n m v m0 m1 hq2 => ?_⟩
    have f := J3 n _ v hq2 (by have := hle n _ v hq2; omega) (by omega)
    have := J1.2.2.2.1 (by decide) m m0 m1
    have := hle n _ v hq2
    omega
  · refine Or.inr ⟨z1, by omega, ?_, fun n m v m0 m1 hq2 => ?_⟩
    · obtain ⟨n, v, h1, h2⟩ := J1.2.2.1 (100 * q.2.2.1 + to) (by omega) (by omega) (by rw [z3]; exact z4)
      exact ⟨n, v, h1⟩
    · have := (z7 n m v hq2 m1).2 (by decide)
      have := hle n _ v hq2
      omega
end HT
