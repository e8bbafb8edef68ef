/-! the reference's bearsFrom -/
section BR
variable {day to hot cool wt : Int} {dw : Nat → Int64} {sn tw sh : Int → Int} {ww sw gw lw : Nat → Int64} {p bears mends ice en nw lim wk k0 : Int}
def bSo (nx : Int → Int → Int) (val : Int → Int → Int → Int) (to k0 bears : Int) (R : Int → Int) : Prop := ∀ j, 0 ≤ j → j < 12000 → 0 ≤ R j ∧ (R j ≤ bears ∨ R j = 1000000) ∧ (R j ≤ bears → ∃ n, qv nx val 5 to k0 bears 119 n j (R j))
def bOf (nx : Int → Int → Int) (val : Int → Int → Int → Int) (to bears : Int) (R : Int → Int) (j n : Int) : Prop := R j ≤ bears → j % 100 ≠ to → ∀ w, 0 ≤ w → w < n → 0 ≤ nx j w → R (nx j w) ≤ val j w (R j) ∨ bears < val j w (R j)
theorem b_found {nx : Int → Int → Int} {val : Int → Int → Int → Int} (G : Gv nx 5 to p) (V : Vv nx val 5 bears 3) (hb : 0 ≤ bears ∧ bears ≤ 99) (h0 : 0 ≤ k0) (h1 : k0 < 12000) {R : Int → Int} {ka : Int} (hS : bSo nx val to k0 bears R) (hz : R k0 = 0) (hO : ∀ j, 0 ≤ j → j < ka → k0 / 100 ≤ j / 100 → bOf nx val to bears R j 5) : ∀ (n : Nat) (k v : Int), qv nx val 5 to k0 bears 119 n k v → k / 100 ≤ ka / 100 → R k ≤ v
  | 0, k, v, h, _ => by obtain ⟨rfl, rfl⟩ := h; omega
  | n + 1, k, v, h, hk => by
    obtain ⟨j, u, w, hj, ht, w0, w1, hn, rfl, rfl, hl, he⟩ := h
    have r := qv_rng G V (by omega) h0 h1 n j u hj
    have g := G j w r.1 r.2.1 w0 w1 hn
    have ih := b_found G V hb h0 h1 hS hz hO n j u hj (by omega)
    have ul : u ≤ bears := by
      by_cases hz : n = 0
      · subst hz; have := hj.2; omega
      · exact r.2.2.2.2.1 hz
    have s := hS j r.1 r.2.1
    have v2 := V.1 j w (R j) u r.1 r.2.1 w0 w1 hn s.1 ih (by omega)
    have o := hO j r.1 (by omega) r.2.2.1 (by omega) ht w w0 w1 hn
    omega
theorem p_bf_in (hi : i32 tw) (hsh : i32 sh) (hW : wkR tw wk p bears mends ice hot cool) (hSn : snR sn dw) (hA : waR tw ww) (hp : 1 ≤ p ∧ p ≤ 3) (hb : 0 ≤ bears ∧ bears ≤ 99) (hm : 0 ≤ mends ∧ mends ≤ 99) (hto : 0 ≤ to ∧ to < 100) {k : Int} (h0 : 0 ≤ k) (h1 : k < 12000) (hk0 : 0 ≤ k0 ∧ k0 / 100 ≤ k / 100) {R0 : Int → Int} (i1 : i32 R0) (hS : bSo (nxT tw sh p) (fun k w v => hV dw bears mends ww (nxT tw sh p) p k w v) to k0 bears R0) (hz : R0 k0 = 0) (hkl : R0 k ≤ bears) (hkt : k % 100 ≠ to) {xx : (Nat → Int32) → Int32 → Int32 → Int32 → Prop} {post : Int32 → (Nat → Int32) → Prop}
    (hT : ∀ j, 0 ≤ j → j < k → j % 100 = to → R0 j = 1000000)
    (hO : ∀ j, 0 ≤ j → j < k → k0 / 100 ≤ j / 100 → bOf (nxT tw sh p) (fun k w v => hV dw bears mends ww (nxT tw sh p) p k w v) to bears R0 j 5)
    (hx : ∀ R : Int → Int, i32 R → bSo (nxT tw sh p) (fun k w v => hV dw bears mends ww (nxT tw sh p) p k w v) to k0 bears R → R k0 = 0 → (∀ j, 0 ≤ j → j < k + 1 → j % 100 = to → R j = 1000000) → (∀ j, 0 ≤ j → j < k + 1 → k0 / 100 ≤ j / 100 → bOf (nxT tw sh p) (fun k w v => hV dw bears mends ww (nxT tw sh p) p k w v) to bears R j 5) → xx (zA R) (zi wk) (zi to) (zi k)) :
    ∃ n, lp (wp_X12_bearsFrom_L85 xx (zA tw) (zA sh) (zA sn) post) n (zA R0, zi wk, zi to, zi k, 0) := by
  have hW' := hW
  obtain ⟨hwk, w0', _⟩ := hW'
  refine lp_inv (fun i s => ∃ R : Int → Int, s = (zA R, zi wk, zi to, zi k, zi i) ∧ i32 R ∧ bSo (nxT tw sh p) (fun k w v => hV dw bears mends ww (nxT tw sh p) p k w v) to k0 bears R ∧ R k0 = 0 ∧ R k = R0 k ∧ (∀ j, 0 ≤ j → j < k → j % 100 = to → R j = 1000000) ∧ (∀ j, 0 ≤ j → j < k → k0 / 100 ≤ j / 100 → bOf (nxT tw sh p) (fun k w v => hV dw bears mends ww (nxT tw sh p) p k w v) to bears R j 5) ∧ bOf (nxT tw sh p) (fun k w v => hV dw bears mends ww (nxT tw sh p) p k w v) to bears R k i) 5 ?_ ?_ 0 (Nat.zero_le _) ?_
  · rintro s ⟨R, rfl, j1, j2, j3, j4, j7, j5, j6⟩ kk
    have := hx R j1 j2 j3 (fun j a1 a2 a3 => if hj : j = k then by rw [hj] at a3; exact absurd a3 hkt else j7 j a1 (by omega) a3) (fun j a1 a2 a3 => if hj : j = k then by rw [hj]; exact j6 else j5 j a1 (by omega) a3)
    simp (disch := omega) only [wp_X12_bearsFrom_L85, zi_lit, zi_add, zi_sub, zi_mul, zi_neg, zi_lt, zi_le, zi_eq, zi_div, zi_rem, zi_in, zA_get, zA_upd]
    exact ⟨fun _ => this, fun z => absurd (by decide) z⟩
  · rintro i hi5 s ⟨R, rfl, j1, j2, j3, j4, j7, j5, j6⟩ kk hkk
    have hni : ((i + 1 : Nat) : Int) = (i : Int) + 1 := by omega
    simp (disch := omega) only [wp_X12_bearsFrom_L85, zi_lit, zi_le, zi_div, zi_rem]
    refine ⟨fun z => by omega, fun _ => ?_⟩
    refine p_walkerOf (i := 0) hwk (by omega) ?_
    rw [show 383 + 7 * wk + 0 = 383 + 7 * wk by omega, w0']
    refine p_behind hi hsh hp (by omega) (by omega) (by omega) ?_
    have hbr := bhd_rng (tw := tw) (sh := sh) (w := i) hp (show 0 ≤ k / 100 ∧ k / 100 < 120 by omega) (show 0 ≤ k % 100 ∧ k % 100 < 100 by omega)
    have hl := plen_rng (w := i) hp
    have hnx : nxT tw sh p k i = bhd tw sh p (k / 100) (k % 100) i := rfl
    have ek : 100 * (k / 100) + k % 100 = k := by omega
    rw [← hnx] at hbr ⊢
    have hsr := stp_rng (s := k % 100) (w := i) (show 0 ≤ k % 100 ∧ k % 100 < 100 by omega)
    generalize hng : nxT tw sh p k i = n at *
    rcases hbr with rfl | ⟨n0, n1, n2, n3, n4⟩
    · refine ⟨fun _ => ?_, fun h => ?_⟩
      · simp only [forall_eq, zi_add]
        refine hkk _ ⟨R, by rw [hni], j1, j2, j3, j4, j7, j5, fun a1 a2 v v0 v1 v2 => ?_⟩
        by_cases hv : v = i
        · subst hv; omega
        · exact j6 a1 a2 v v0 (by omega) v2
      · exact absurd (show zi (-1) < zi 0 by decide) h
    · have b1 := j2 n n0 n1
      have b2 := j2 k h0 h1
      simp (disch := omega) only [zi_lit, zi_add, zi_sub, zi_mul, zi_neg, zi_lt, zi_le, zi_eq, zi_div, zi_rem, zi_in, zA_get, zA_upd]
      refine ⟨fun h => by omega, fun _ => ⟨by omega, ?_⟩⟩
      refine p_heatBehind (sh := sh) hi hW hSn hA hp hb hm (by omega) (by omega) (by omega) (by omega) (fun q => ?_) (fun q => ?_) ?_
      · rw [if_neg q] at n3; omega
      · rw [ek, hng, n3, if_neg q]
      rw [ek]
      have vr := (hV_mono (dw := dw) (ww := ww) (nx := nxT tw sh p) (p := p) (k := k) (w := i) hb hm.1 b2.1 (Int.le_refl (R k))).1
      have hnk : n ≠ k := by omega
      have hnk0 : n ≠ k0 := by omega
      generalize hVg : hV dw bears mends ww (nxT tw sh p) p k i (R k) = V at *
      have hold : ∀ (R' : Int → Int), (∀ j, R' j ≤ R j) → (∀ j, j < n → R' j = R j) → (R' n ≤ V ∨ bears < V) → (∀ j, 0 ≤ j → j < k → j % 100 = to → R' j = 1000000) ∧ (∀ j, 0 ≤ j → j < k → k0 / 100 ≤ j / 100 → bOf (nxT tw sh p) (fun k w v => hV dw bears mends ww (nxT tw sh p) p k w v) to bears R' j 5) ∧ bOf (nxT tw sh p) (fun k w v => hV dw bears mends ww (nxT tw sh p) p k w v) to bears R' k (i + 1) := by
        intro R' q1 q2 q3
        refine ⟨fun j a1 a2 a3 => by rw [q2 j (by omega)]; exact j7 j a1 a2 a3, fun j a1 a2 a3 a4 a5 v v0 v1 v2 => ?_, fun a4 a5 v v0 v1 v2 => ?_⟩
        · rw [q2 j (by omega)] at a4 ⊢
          have := j5 j a1 a2 a3 a4 a5 v v0 v1 v2
          have := q1 (nxT tw sh p j v)
          omega
        · rw [q2 k (by omega)] at a4 ⊢
          by_cases hv : v = i
          · subst hv; rw [hng]; show R' n ≤ hV dw bears mends ww (nxT tw sh p) p k i (R k) ∨ bears < hV dw bears mends ww (nxT tw sh p) p k i (R k); rw [hVg]; exact q3
          · have := j6 a4 a5 v v0 (by omega) v2
            have := q1 (nxT tw sh p k v)
            omega
      have keep : (R n ≤ V ∨ bears < V) → kk (zA R, zi wk, zi to, zi k, zi (i + 1)) := by
        intro q
        have := hold R (fun _ => Int.le_refl _) (fun _ _ => rfl) q
        exact hkk _ ⟨R, by rw [hni], j1, j2, j3, j4, this.1, this.2.1, by rw [hni]; exact this.2.2⟩
      by_cases hVb : V ≤ bears
      · rw [if_pos hVb]
        simp (disch := omega) only [forall_eq, zi_lit, zi_add, zi_sub, zi_mul, zi_neg, zi_lt, zi_le, zi_eq, zi_div, zi_rem, zi_in, zA_get, zA_upd]
        refine ⟨by omega, fun a1 => ⟨by omega, by omega, ?_⟩, fun a1 => ⟨by omega, ?_⟩⟩
        · rw [upI_same]; exact keep (Or.inl a1)
        · have := hold (upI R n V) (fun j => upI_le (by omega) j) (fun j hj => upI_n (by omega)) (Or.inl (by rw [upI_s]; exact Int.le_refl _))
          refine hkk _ ⟨upI R n V, by rw [hni], i32_up j1 (by omega), ?_, by rw [upI_n hnk0.symm]; exact j3, by rw [upI_n hnk.symm]; exact j4, this.1, this.2.1, by rw [hni]; exact this.2.2⟩
          intro j a2 a3
          by_cases hj : j = n
          · subst hj
            rw [upI_s]
            refine ⟨by omega, Or.inl hVb, fun _ => ?_⟩
            obtain ⟨n', hq⟩ := b2.2.2 (by omega)
            exact ⟨n' + 1, k, R k, i, hq, hkt, by omega, by omega, by omega, hng.symm, hVg.symm, hVb, by omega⟩
          · rw [upI_n hj]; exact j2 j a2 a3
      · rw [if_neg hVb]
        simp (disch := omega) only [forall_eq, zi_lit, zi_add, zi_sub, zi_mul, zi_neg, zi_lt, zi_le, zi_eq, zi_div, zi_rem, zi_in, zA_get, zA_upd]
        refine ⟨by omega, fun a1 => ⟨by omega, by omega, ?_⟩, fun a1 => by omega⟩
        rw [upI_same]; exact keep (Or.inr (by omega))
  · exact ⟨R0, rfl, i1, hS, hz, rfl, hT, hO, fun _ _ v v0 v1 => by omega⟩
theorem p_bearsFrom (hi : i32 tw) (hsh : i32 sh) (hW : wkR tw wk p bears mends ice hot cool) (hSn : snR sn dw) (hA : waR tw ww) (hp : 1 ≤ p ∧ p ≤ 3) (hb : 0 ≤ bears ∧ bears ≤ 99) (hm : 0 ≤ mends ∧ mends ≤ 99) (hto : 0 ≤ to ∧ to < 100) {m s : Int} (hmm : 0 ≤ m ∧ m < 120) (hs : 0 ≤ s ∧ s < 100) {t1 : Nat → Int32} {post : Int32 → (Nat → Int32) → Prop} (h : ∀ (T : Int) (R : Nat → Int32), Brs (nxT tw sh p) (fun k w v => hV dw bears mends ww (nxT tw sh p) p k w v) to (100 * m + s) bears T → post (zi T) R) :
    wp_X12_bearsFrom (zA tw) (zA sh) (zA sn) t1 (zi wk) (zi m) (zi s) (zi to) post := by
  have G : Gv (nxT tw sh p) 5 to p := Gv_T hp
  have V : Vv (nxT tw sh p) (fun k w v => hV dw bears mends ww (nxT tw sh p) p k w v) 5 bears 3 := Vv_heat hb hm hp.1
  simp only [wp_X12_bearsFrom]
  refine lp_inv (fun i s' => ∃ R : Int → Int, s' = (zA R, zi wk, zi m, zi s, zi to, zi i) ∧ i32 R ∧ ∀ j, 0 ≤ j → j < (i : Int) → R j = 1000000) 12000 ?_ ?_ 0 (Nat.zero_le _) ?_
  · rintro s' ⟨R, rfl, j1, j2⟩ kk
    simp (disch := omega) only [wp_X12_bearsFrom_L3, forall_eq, zi_lit, zi_mul, zi_add, zi_le, zi_in, zA_upd]
    refine ⟨fun _ => ⟨by omega, ?_⟩, fun z => absurd (by decide) z⟩
    generalize hk0 : 100 * m + s = k0 at *
    have hd : k0 / 100 = m := by omega
    refine lp_inv (fun i s' => ∃ R : Int → Int, s' = (zA R, zi wk, zi to, zi (100 * m + i)) ∧ i32 R ∧ bSo (nxT tw sh p) (fun k w v => hV dw bears mends ww (nxT tw sh p) p k w v) to k0 bears R ∧ R k0 = 0 ∧ (∀ j, 0 ≤ j → j < 100 * m + i → j % 100 = to → R j = 1000000) ∧ (∀ j, 0 ≤ j → j < 100 * m + i → k0 / 100 ≤ j / 100 → bOf (nxT tw sh p) (fun k w v => hV dw bears mends ww (nxT tw sh p) p k w v) to bears R j 5)) (12000 - 100 * m).toNat ?_ ?_ 0 (Nat.zero_le _) ?_
    · rintro s' ⟨R, rfl, j1, j2, j3, j7, j4⟩ kk
      have hi2 : 100 * m + (((12000 - 100 * m).toNat : Nat) : Int) = 12000 := by omega
      rw [hi2] at j4 j7 ⊢
      simp (disch := omega) only [wp_X12_bearsFrom_L45, zi_lit, zi_le]
      refine ⟨fun _ => ?_, fun z => absurd (by decide) z⟩
      refine h (-1) _ (Or.inl ⟨rfl, fun n m' v m0 m1 hq => ?_⟩)
      have f := b_found (ka := 12000) G V hb (by omega) (by omega) j2 j3 (fun j a b c => j4 j a b c) n _ v hq (by omega)
      have r := qv_rng G V (by omega) (by omega) (by omega) n _ v hq
      have := j7 (100 * m' + to) (by omega) (by omega) (by omega)
      by_cases hn : n = 0
      · subst hn; have := hq.2; omega
      · have := r.2.2.2.2.1 hn; omega
    · rintro i hi2 s' ⟨R, rfl, j1, j2, j3, j7, j4⟩ kk hkk
      have hni : (100 : Int) * m + ((i + 1 : Nat) : Int) = 100 * m + (i : Int) + 1 := by omega
      have hkr : (0 : Int) ≤ 100 * m + i ∧ 100 * m + (i : Int) < 12000 := by omega
      generalize hk : (100 : Int) * m + i = k at *
      have b := j2 k hkr.1 hkr.2
      simp (disch := omega) only [wp_X12_bearsFrom_L45, zi_lit, zi_le, zi_in, zA_get, zi_rem, zi_eq, zi_div]
      refine ⟨fun z => by omega, fun _ => ⟨by omega, fun a1 => ?_, fun a1 => ⟨fun a2 => ?_, fun a2 => ?_⟩⟩⟩
      · simp only [forall_eq, zi_add]
        refine hkk _ ⟨R, by rw [hni], j1, j2, j3, fun j c1 c2 c3 => ?_, fun j c1 c2 c3 => ?_⟩
        · by_cases hj : j = k
          · subst hj; omega
          · exact j7 j c1 (by omega) c3
        · by_cases hj : j = k
          · subst hj; intro q1 q2; omega
          · exact j4 j c1 (by omega) c3
      · refine p_bf_in hi hsh hW hSn hA hp hb hm hto hkr.1 hkr.2 (by omega) j1 j2 j3 (by omega) a2 j7 j4 (fun R' q1 q2 q3 q5 q4 => ?_)
        simp only [forall_eq, zi_add]
        exact hkk _ ⟨R', by rw [hni], q1, q2, q3, fun j a1 a2 a3 => q5 j a1 (by omega) a3, fun j a1 a2 a3 => q4 j a1 (by omega) a3⟩
      · refine h (k / 100) _ (Or.inr ⟨by omega, by omega, ?_, fun n m' v m0 m1 hq => ?_⟩)
        · obtain ⟨n, hq⟩ := b.2.2 (by omega)
          exact ⟨n, R k, by rw [show 100 * (k / 100) + to = k by omega]; exact hq⟩
        · have f := b_found (ka := k) G V hb (by omega) (by omega) j2 j3 j4 n _ v hq (by omega)
          have r := qv_rng G V (by omega) (by omega) (by omega) n _ v hq
          have := j7 (100 * m' + to) (by omega) (by omega) (by omega)
          by_cases hn : n = 0
          · subst hn; have := hq.2; omega
          · have := r.2.2.2.2.1 hn; omega
    · refine ⟨upI R k0 0, by simp, i32_up j1 (by omega), ?_, upI_s _ _ _, fun j a1 a2 a3 => ?_, ?_⟩
      · intro j a1 a2
        by_cases hj : j = k0
        · subst hj; rw [upI_s]; exact ⟨by omega, by omega, fun _ => ⟨0, rfl, rfl⟩⟩
        · rw [upI_n hj, j2 j a1 (by omega)]; exact ⟨by omega, by omega, fun z => by omega⟩
      · rw [upI_n (by omega)]; exact j2 j a1 (by omega)
      · intro j a1 a2 a3; omega
  · rintro i hi2 s' ⟨R, rfl, j1, j2⟩ kk hkk
    have hni : ((i + 1 : Nat) : Int) = (i : Int) + 1 := by omega
    simp (disch := omega) only [wp_X12_bearsFrom_L3, forall_eq, zi_lit, zi_add, zi_sub, zi_mul, zi_neg, zi_lt, zi_le, zi_eq, zi_div, zi_rem, zi_in, zA_get, zA_upd]
    refine ⟨fun z => by omega, fun _ => ⟨by omega, hkk _ ⟨upI R i 1000000, by rw [hni], i32_up j1 (by omega), fun j a1 a2 => ?_⟩⟩⟩
    by_cases hj : j = i
    · subst hj; rw [upI_s]
    · rw [upI_n hj]; exact j2 j a1 (by omega)
  · obtain ⟨f1, e1, r1⟩ := zA_ex t1
    exact ⟨f1, by rw [e1]; rfl, r1, fun j a1 a2 => by omega⟩
end BR
