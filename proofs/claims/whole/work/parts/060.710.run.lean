/-! the class's run: all live nodes in their order -/
def rst (g : Int → Sst → Sst) (st : Sst) (a : Int) : Nat → Sst
  | 0 => st
  | n + 1 => if (rst g st a n).2.2.2.2 (a + n) = true then g (a + n) (rst g st a n) else rst g st a n
section RU
variable {eb : Bool} {day to hot cool wt aims : Int} {dw : Nat → Int64} {ex nt tw sh : Int → Int} {sl : Int} {ww sw : Nat → Int64} {p bears mends en : Int}
def Qok (tw : Int → Int) (aims bears : Int) (st : Sst) : Prop := Sok st ∧ (aims = 3 → st.1 = bears ∨ st.1 = -1) ∧ (∀ k, 0 ≤ k → k < 12000 → st.2.2.2.2 k = true → tw (k % 100) ≠ 1)
/-- nothing of the minutes up to that of a node has changed, most is no more -/
def Late (k : Int) (a b : Sst) : Prop := (∀ j, j / 100 ≤ k / 100 → b.2.2.2.2 j = a.2.2.2.2 j ∧ b.2.2.2.1 j = a.2.2.2.1 j) ∧ b.1 ≤ a.1
theorem Late_refl (k : Int) (a : Sst) : Late k a a := ⟨fun _ _ => ⟨rfl, rfl⟩, Int.le_refl _⟩
theorem Late_trans {k : Int} {a b c : Sst} (h : Late k a b) (h2 : Late k b c) : Late k a c := ⟨fun j hj => ⟨(h2.1 j hj).1.trans (h.1 j hj).1, (h2.1 j hj).2.trans (h.1 j hj).2⟩, Int.le_trans h2.2 h.2⟩
theorem ofr_q {n v k : Int} {st : Sst} (hQ : Qok tw aims bears st) (hv : 0 ≤ v ∧ v ≤ 300000000) (hn : 0 ≤ n ∧ n < 12000) (ht : tw (n % 100) ≠ 1) (hk : k / 100 < n / 100) : Qok tw aims bears (ofr aims to st n v) ∧ Late k st (ofr aims to st n v) := by
  refine ⟨⟨ofr_ok hQ.1 hv hn, fun q => ?_, fun j j0 j1 => ?_⟩, fun j hj => ?_, ?_⟩
  · rcases ofr_m3 (to := to) (k := n) (v := v) (st := st) q with z | z
    · rw [z]; exact hQ.2.1 q
    · exact Or.inr z
  · simp only [ofr]
    split
    · show upI st.2.2.2.2 n true j = true → _
      by_cases hj : j = n
      · subst hj; exact fun _ => ht
      · rw [upI_n hj]; exact hQ.2.2 j j0 j1
    · exact hQ.2.2 j j0 j1
  · simp only [ofr]
    have hjn : j ≠ n := by omega
    split
    · exact ⟨upI_n hjn, upI_n hjn⟩
    · exact ⟨rfl, rfl⟩
  · exact (ofr_most hv.1 hQ.1.1.1).2
theorem ofp_q {nx : Int → Int → Int} {val : Int → Int} {k w : Int} {st : Sst} (hn : 0 ≤ nx k w → nx k w < 12000 ∧ k / 100 < nx k w / 100 ∧ tw (nx k w % 100) ≠ 1) (hQ : Qok tw aims bears st) (hv : 0 ≤ val w ∧ val w ≤ 300000000) : Qok tw aims bears (ofp aims to en nx val k st w) ∧ Late k st (ofp aims to en nx val k st w) := by
  simp only [ofp]
  split
  · next h => have := hn h.1; exact ofr_q hQ hv ⟨h.1, this.1⟩ this.2.2 this.2.1
  · exact ⟨hQ, Late_refl _ _⟩
theorem of4_q {nx : Int → Int → Int} {val : Int → Int} {k : Int} {st : Sst} (hn : ∀ w, 0 ≤ nx k w → nx k w < 12000 ∧ k / 100 < nx k w / 100 ∧ tw (nx k w % 100) ≠ 1) (hQ : Qok tw aims bears st) (hv : ∀ w, 0 ≤ val w ∧ val w ≤ 300000000) : ∀ n, Qok tw aims bears (of4 aims to en nx val k st n) ∧ Late k st (of4 aims to en nx val k st n)
  | 0 => ⟨hQ, Late_refl _ _⟩
  | n + 1 => by
    have ih := of4_q hn hQ hv n
    have a := ofp_q (to := to) (en := en) (w := n) (hn n) ih.1 (hv n)
    exact ⟨a.1, Late_trans ih.2 a.2⟩
theorem nxT_ok (hp : 1 ≤ p ∧ p ≤ 3) {k w : Int} (h0 : 0 ≤ k) (h1 : k < 12000) (h : 0 ≤ nxT tw sh p k w) : nxT tw sh p k w < 12000 ∧ k / 100 < nxT tw sh p k w / 100 ∧ tw (nxT tw sh p k w % 100) ≠ 1 ∧ nxT tw sh p k w / 100 = k / 100 + plen w p := by
  have hb := bhd_rng (tw := tw) (sh := sh) (w := w) hp (show 0 ≤ k / 100 ∧ k / 100 < 120 by omega) (show 0 ≤ k % 100 ∧ k % 100 < 100 by omega)
  have hl := plen_rng (w := w) hp
  simp only [nxT] at h ⊢
  rcases hb with z | z
  · omega
  · exact ⟨z.2.1, by omega, z.2.2.2.2, z.2.2.1⟩
abbrev gonC (eb : Bool) (to hot cool wt aims : Int) (dw : Nat → Int64) (ex tw sh : Int → Int) (ww : Nat → Int64) (p bears mends en : Int) : Int → Sst → Sst := fun k st => gon aims to en wt (nxT tw sh p) (fun k w v => valF eb hot cool aims dw ex bears mends ww (nxT tw sh p) p k w v) k st
theorem gon_q (A : Ask day to hot cool wt aims ex nt tw sh sl sw p bears mends en) {k : Int} {st : Sst} (hQ : Qok tw aims bears st) (h0 : 0 ≤ k) (h1 : k < 12000) : Qok tw aims bears (gonC eb to hot cool wt aims dw ex tw sh ww p bears mends en k st) ∧ Late k st (gonC eb to hot cool wt aims dw ex tw sh ww p bears mends en k st) := by
  have hp := A.2.2.2.2.2.2.2.2.2.2.2.1
  simp only [gonC, gon]
  split
  · exact ⟨hQ, Late_refl _ _⟩
  · next h =>
    have hS := hQ.1.2.1 k h0 h1
    have hS1 := hQ.1.1
    have hv := fun w => valF_rng (eb := eb) (dw := dw) (ww := ww) (nx := nxT tw sh p) (k := k) (w := w) A (show 0 ≤ st.2.2.2.1 k ∧ st.2.2.2.1 k ≤ 268435455 by omega)
    have hn : ∀ w, 0 ≤ nxT tw sh p k w → nxT tw sh p k w < 12000 ∧ k / 100 < nxT tw sh p k w / 100 ∧ tw (nxT tw sh p k w % 100) ≠ 1 := fun w z => by have := nxT_ok hp h0 h1 z; exact ⟨this.1, this.2.1, this.2.2.1⟩
    have hst : Qok tw aims bears (if wt = 0 then st else ofp aims to en (nxT tw sh p) (fun w => valF eb hot cool aims dw ex bears mends ww (nxT tw sh p) p k w (st.2.2.2.1 k)) k st 4) ∧ Late k st (if wt = 0 then st else ofp aims to en (nxT tw sh p) (fun w => valF eb hot cool aims dw ex bears mends ww (nxT tw sh p) p k w (st.2.2.2.1 k)) k st 4) := by
      split
      · exact ⟨hQ, Late_refl _ _⟩
      · exact ofp_q (hn 4) hQ (by have := hv 4; omega)
    have := of4_q (to := to) (en := en) (val := fun w => valF eb hot cool aims dw ex bears mends ww (nxT tw sh p) p k w (st.2.2.2.1 k)) hn hst.1 (fun w => by have := hv w; omega) 4
    exact ⟨this.1, Late_trans hst.2 this.2⟩
theorem rst_q (A : Ask day to hot cool wt aims ex nt tw sh sl sw p bears mends en) {a : Int} {st : Sst} (hQ : Qok tw aims bears st) (h0 : 0 ≤ a) : ∀ n : Nat, a + n ≤ 12000 → Qok tw aims bears (rst (gonC eb to hot cool wt aims dw ex tw sh ww p bears mends en) st a n)
  | 0, _ => hQ
  | n + 1, hn => by
    have ih := rst_q A hQ h0 n (by omega)
    simp only [rst]
    split
    · exact (gon_q A ih (by omega) (by omega)).1
    · exact ih
theorem rst_skip {g : Int → Sst → Sst} {a : Int} {st : Sst} {n : Nat} : ∀ j : Nat, (∀ i : Nat, i < j → (rst g st a n).2.2.2.2 (a + n + (i : Int)) = false) → rst g st a (n + j) = rst g st a n
  | 0, _ => rfl
  | j + 1, h => by
    have ih := rst_skip j (fun i hi => h i (by omega))
    have e : a + ((n + j : Nat) : Int) = a + n + j := by omega
    have e2 : rst g st a (n + (j + 1)) = if (rst g st a (n + j)).2.2.2.2 (a + ((n + j : Nat) : Int)) = true then g (a + ((n + j : Nat) : Int)) (rst g st a (n + j)) else rst g st a (n + j) := rfl
    rw [e2, ih, e, h j (by omega), if_neg (by decide)]
theorem gon_neg {k : Int} {st : Sst} (h : st.1 < st.2.2.2.1 k) : gonC eb to hot cool wt aims dw ex tw sh ww p bears mends en k st = st := by
  simp only [gonC, gon, if_pos (Or.inl h : st.1 < st.2.2.2.1 k ∨ k % 100 = to)]
theorem rst_neg {a : Int} {st : Sst} (h0 : 0 ≤ a) {n : Nat} (hQ : Sok (rst (gonC eb to hot cool wt aims dw ex tw sh ww p bears mends en) st a n)) (h : (rst (gonC eb to hot cool wt aims dw ex tw sh ww p bears mends en) st a n).1 < 0) : ∀ j : Nat, a + n + (j : Int) ≤ 12000 → rst (gonC eb to hot cool wt aims dw ex tw sh ww p bears mends en) st a (n + j) = rst (gonC eb to hot cool wt aims dw ex tw sh ww p bears mends en) st a n
  | 0, _ => rfl
  | j + 1, hj => by
    have ih := rst_neg h0 hQ h j (by omega)
    show (if (rst _ st a (n + j)).2.2.2.2 (a + ((n + j : Nat) : Int)) = true then gonC _ _ _ _ _ _ _ _ _ _ _ _ _ _ _ (a + ((n + j : Nat) : Int)) (rst _ st a (n + j)) else rst _ st a (n + j)) = _
    rw [ih]
    split
    · refine gon_neg ?_
      have := hQ.2.1 (a + ((n + j : Nat) : Int)) (by omega) (by omega)
      omega
    · rfl
theorem rst_late (A : Ask day to hot cool wt aims ex nt tw sh sl sw p bears mends en) {a : Int} {st : Sst} (hQ : Qok tw aims bears st) (h0 : 0 ≤ a) {n : Nat} : ∀ j : Nat, a + n + (j : Int) ≤ 12000 → Late (a + n) (rst (gonC eb to hot cool wt aims dw ex tw sh ww p bears mends en) st a n) (rst (gonC eb to hot cool wt aims dw ex tw sh ww p bears mends en) st a (n + j))
  | 0, _ => Late_refl _ _
  | j + 1, hj => by
    have ih := rst_late A hQ h0 (n := n) j (by omega)
    have q := rst_q (eb := eb) (dw := dw) (ww := ww) A hQ h0 (n + j) (by omega)
    refine Late_trans ih ?_
    show Late (a + n) (rst _ st a (n + j)) (if (rst _ st a (n + j)).2.2.2.2 (a + ((n + j : Nat) : Int)) = true then gonC _ _ _ _ _ _ _ _ _ _ _ _ _ _ _ (a + ((n + j : Nat) : Int)) (rst _ st a (n + j)) else rst _ st a (n + j))
    split
    · have g := (gon_q (eb := eb) (dw := dw) (ww := ww) (k := a + ((n + j : Nat) : Int)) A q (by omega) (by omega)).2
      exact ⟨fun i hi => g.1 i (by omega), g.2⟩
    · exact Late_refl _ _
theorem p_run (A : Ask day to hot cool wt aims ex nt tw sh sl sw p bears mends en) {st : Sst} (hQ : Qok tw aims bears st) {lw : Nat → Int64} (hL : LR lw st.2.2.2.2) {fi bym : Int} (hf : 0 ≤ fi ∧ fi < 120) (hby : 0 ≤ bym ∧ bym < 2147483648) (hen : en = if 119 < bym then 119 else bym) {post : Int32 → Int32 → Int32 → Int32 → (Nat → Int64) → (Nat → Int32) → Prop}
    (h : ∀ (q : Sst) (lw' : Nat → Int64), q = rst (gonC eb to hot cool wt aims dw ex tw sh ww p bears mends en) st (100 * fi) (100 * (en + 1 - fi)).toNat → LR lw' q.2.2.2.2 → post (if q.2.2.1 = -1 then 0 else 1) (zi q.1) (zi q.2.1) (zi q.2.2.1) lw' (zA q.2.2.2.1)) :
    wp_X9_run eb (zi day) (zi fi) (zi to) (zi hot) (zi cool) (zi wt) (zi aims) dw (zA ex) (zA nt) (zi sl) ww sw (zi p) (zi bears) (zi mends) (zi st.1) (zi st.2.1) (zi st.2.2.1) lw (zA st.2.2.2.1) (zi bym) post := by
  have hen2 := A.2.2.2.2.2.2.2.2.2.2.2.2.2.2
  have hz : (if (119 : Int32) < zi bym then (119 : Int32) else zi bym) = zi en := by
    rw [hen]
    by_cases q : 119 < bym
    · rw [if_pos q, if_pos (by rw [zi_lit, zi_lt (by omega)]; exact q)]; rfl
    · rw [if_neg q, if_neg (by rw [zi_lit, zi_lt (by omega)]; exact q)]
  simp only [wp_X9_run, forall_eq, hz]
  have fin : ∀ (q : Sst) (lw' : Nat → Int64), q = rst (gonC eb to hot cool wt aims dw ex tw sh ww p bears mends en) st (100 * fi) (100 * (en + 1 - fi)).toNat → LR lw' q.2.2.2.2 → Sok q → wp_X9_run_b106 eb (zi day) (zi fi) (zi to) (zi hot) (zi cool) (zi wt) (zi aims) dw (zA ex) (zA nt) (zi sl) ww sw (zi p) (zi bears) (zi mends) post (zi q.1) (zi q.2.1) (zi q.2.2.1) lw' (zA q.2.2.2.1) := by
    intro q lw' e1 e2 e3
    have e4 := e3.2.2.2
    have := h q lw' e1 e2
    simp (disch := omega) only [wp_X9_run_b106, zi_lit, zi_neg, zi_eq]
    refine ⟨fun z => ?_, fun z => ?_⟩
    · rw [if_pos z] at this; exact this
    · rw [if_neg z] at this; exact this
  refine lp_inv (fun i s' => ∃ lw', s' = (zi (rst (gonC eb to hot cool wt aims dw ex tw sh ww p bears mends en) st (100 * fi) (100 * i)).1, zi (rst (gonC eb to hot cool wt aims dw ex tw sh ww p bears mends en) st (100 * fi) (100 * i)).2.1, zi (rst (gonC eb to hot cool wt aims dw ex tw sh ww p bears mends en) st (100 * fi) (100 * i)).2.2.1, lw', zA (rst (gonC eb to hot cool wt aims dw ex tw sh ww p bears mends en) st (100 * fi) (100 * i)).2.2.2.1, zi en, zi (fi + i)) ∧ LR lw' (rst (gonC eb to hot cool wt aims dw ex tw sh ww p bears mends en) st (100 * fi) (100 * i)).2.2.2.2) (en + 1 - fi).toNat ?_ ?_ 0 (Nat.zero_le _) ⟨lw, by simp [rst], hL⟩
  · rintro s' ⟨lw', rfl, hl⟩ kb
    have e : 100 * (en + 1 - fi).toNat = (100 * (en + 1 - fi)).toNat := by omega
    have q := rst_q (eb := eb) (dw := dw) (ww := ww) A hQ (show 0 ≤ 100 * fi by omega) (100 * (en + 1 - fi).toNat) (by omega)
    rw [e] at hl q ⊢
    have := fin _ lw' rfl hl q.1
    simp only [wp_X9_run_L12]
    by_cases hd : en < fi + (((en + 1 - fi).toNat : Nat) : Int)
    · exact ⟨fun _ => this, fun z => absurd (by rw [zi_lt (by omega)]; exact hd) z⟩
    · omega
  · rintro i hi s' ⟨lw', rfl, hl⟩ kb hkb
    have q := rst_q (eb := eb) (dw := dw) (ww := ww) A hQ (show 0 ≤ 100 * fi by omega) (100 * i) (by omega)
    have q1 := q.1.1
    simp (disch := omega) only [wp_X9_run_L12, zi_lit, zi_lt]
    refine ⟨fun z => by omega, fun _ => ⟨fun z => ?_, fun z => ?_⟩⟩
    · have e := rst_neg (eb := eb) (dw := dw) (ww := ww) (show 0 ≤ 100 * fi by omega) q.1 z ((100 * (en + 1 - fi)).toNat - 100 * i) (by omega)
      rw [show 100 * i + ((100 * (en + 1 - fi)).toNat - 100 * i) = (100 * (en + 1 - fi)).toNat by omega] at e
      exact fin _ lw' e.symm hl q.1
    · refine lp_inv (fun hf s' => ∃ lw', s' = (zi (rst (gonC eb to hot cool wt aims dw ex tw sh ww p bears mends en) st (100 * fi) (100 * i + min (64 * hf) 100)).1, zi (rst (gonC eb to hot cool wt aims dw ex tw sh ww p bears mends en) st (100 * fi) (100 * i + min (64 * hf) 100)).2.1, zi (rst (gonC eb to hot cool wt aims dw ex tw sh ww p bears mends en) st (100 * fi) (100 * i + min (64 * hf) 100)).2.2.1, lw', zA (rst (gonC eb to hot cool wt aims dw ex tw sh ww p bears mends en) st (100 * fi) (100 * i + min (64 * hf) 100)).2.2.2.1, zi en, zi (fi + i), zi hf) ∧ LR lw' (rst (gonC eb to hot cool wt aims dw ex tw sh ww p bears mends en) st (100 * fi) (100 * i + min (64 * hf) 100)).2.2.2.2) 2 ?_ ?_ 0 (Nat.zero_le _) ⟨lw', by simp, by simpa using hl⟩
      · rintro s' ⟨lw2, rfl, hl2⟩ kb2
        simp (disch := omega) only [wp_X9_run_L27, zi_lit, zi_le, forall_eq, zi_add]
        refine ⟨fun _ => ?_, fun z => absurd (by decide) z⟩
        have e : 100 * (i + 1) = 100 * i + min (64 * 2) 100 := by omega
        refine hkb _ ⟨lw2, by rw [e, show fi + ((i + 1 : Nat) : Int) = fi + i + 1 by omega], by rw [e]; exact hl2⟩
      · rintro hf2 hhf s' ⟨lw2, rfl, hl2⟩ kb2 hkb2
        have hf01 : hf2 = 0 ∨ hf2 = 1 := by omega
        have Tm : min (64 * hf2) 100 = 64 * hf2 := by omega
        rw [Tm] at hl2 ⊢
        obtain ⟨T, hT⟩ : ∃ T : Nat, 64 * hf2 + T = min (64 * (hf2 + 1)) 100 ∧ T ≤ 64 := ⟨min (64 * (hf2 + 1)) 100 - 64 * hf2, by omega, by omega⟩
        simp (disch := omega) only [wp_X9_run_L27, zi_lit, zi_le]
        refine ⟨fun z => by omega, fun _ => ?_⟩
        refine p_word (by decide) (by omega) (by omega) ?_
        refine lp_inv (fun j s' => ∃ (t : Nat) (lw3 : Nat → Int64) (left : Int64), s' = (zi (rst (gonC eb to hot cool wt aims dw ex tw sh ww p bears mends en) st (100 * fi) (100 * i + 64 * hf2 + t)).1, zi (rst (gonC eb to hot cool wt aims dw ex tw sh ww p bears mends en) st (100 * fi) (100 * i + 64 * hf2 + t)).2.1, zi (rst (gonC eb to hot cool wt aims dw ex tw sh ww p bears mends en) st (100 * fi) (100 * i + 64 * hf2 + t)).2.2.1, lw3, zA (rst (gonC eb to hot cool wt aims dw ex tw sh ww p bears mends en) st (100 * fi) (100 * i + 64 * hf2 + t)).2.2.2.1, zi en, zi (fi + i), zi hf2, left, zi j) ∧ LR lw3 (rst (gonC eb to hot cool wt aims dw ex tw sh ww p bears mends en) st (100 * fi) (100 * i + 64 * hf2 + t)).2.2.2.2 ∧ j ≤ t ∧ t ≤ T ∧ ∀ b, b < 64 → lb left b = (decide (t ≤ b) && (decide (b < T) && (rst (gonC eb to hot cool wt aims dw ex tw sh ww p bears mends en) st (100 * fi) (100 * i + 64 * hf2 + t)).2.2.2.2 (100 * (fi + i) + 64 * hf2 + b)))) 64 ?_ ?_ 0 (Nat.zero_le _) ?_
        · rintro s' ⟨t, lw3, left, rfl, h3, ht1, ht2, hbit⟩ kb3
          have htT : t = T := by omega
          subst htT
          simp (disch := omega) only [wp_X9_run_L48, zi_lit, zi_le, forall_eq, zi_add]
          refine ⟨fun _ => ?_, fun z => absurd (by decide) z⟩
          have e : 100 * i + min (64 * (hf2 + 1)) 100 = 100 * i + 64 * hf2 + t := by omega
          refine hkb2 _ ⟨lw3, by rw [e]; rfl, by rw [e]; exact h3⟩
        · rintro j hj s' ⟨t, lw3, left, rfl, h3, ht1, ht2, hbit⟩ kb3 hkb3
          have qt := rst_q (eb := eb) (dw := dw) (ww := ww) A hQ (show 0 ≤ 100 * fi by omega) (100 * i + 64 * hf2 + t) (by omega)
          simp (disch := omega) only [wp_X9_run_L48, zi_lit, zi_le]
          refine ⟨fun z => by omega, fun _ => ⟨fun z => ?_, fun z => ?_⟩⟩
          · have hl0 : left = 0 := (lg_cmp_eq left 0).mp z
            have sk := rst_skip (g := gonC eb to hot cool wt aims dw ex tw sh ww p bears mends en) (st := st) (a := 100 * fi) (n := 100 * i + 64 * hf2 + t) (T - t) (fun b hb => by
              have := hbit (t + b) (by omega)
              rw [hl0, lb_0, decide_eq_true (by omega), decide_eq_true (by omega)] at this
              rw [show 100 * fi + ((100 * i + 64 * hf2 + t : Nat) : Int) + (b : Int) = 100 * (fi + i) + 64 * hf2 + ((t + b : Nat) : Int) by omega]
              simpa using this.symm)
            rw [show 100 * i + 64 * hf2 + t + (T - t) = 100 * i + min (64 * (hf2 + 1)) 100 by omega] at sk
            simp only [forall_eq, zi_add]
            exact hkb2 _ ⟨lw3, by rw [sk]; rfl, by rw [sk]; exact h3⟩
          · have hl0 : left ≠ 0 := fun e => z ((lg_cmp_eq left 0).mpr e)
            obtain ⟨b, b64, bt, blow⟩ := lb_low hl0
            have hb1 := hbit b b64
            rw [bt] at hb1
            have hb2 : t ≤ b ∧ b < T ∧ (rst (gonC eb to hot cool wt aims dw ex tw sh ww p bears mends en) st (100 * fi) (100 * i + 64 * hf2 + t)).2.2.2.2 (100 * (fi + i) + 64 * hf2 + b) = true := by
              have := hb1.symm
              simp only [Bool.and_eq_true, decide_eq_true_eq] at this
              exact this
            refine p_lowest b64 blow bt ?_
            have sk := rst_skip (g := gonC eb to hot cool wt aims dw ex tw sh ww p bears mends en) (st := st) (a := 100 * fi) (n := 100 * i + 64 * hf2 + t) (b - t) (fun c hc => by
              have := hbit (t + c) (by omega)
              rw [blow (t + c) (by omega), decide_eq_true (by omega), decide_eq_true (by omega)] at this
              rw [show 100 * fi + ((100 * i + 64 * hf2 + t : Nat) : Int) + (c : Int) = 100 * (fi + i) + 64 * hf2 + ((t + c : Nat) : Int) by omega]
              simpa using this.symm)
            rw [show 100 * i + 64 * hf2 + t + (b - t) = 100 * i + 64 * hf2 + b by omega] at sk
            have hnode : 100 * (fi + (i : Int)) + (64 * (hf2 : Int) + b) = 100 * fi + ((100 * i + 64 * hf2 + b : Nat) : Int) := by omega
            have hnl : tw (64 * (hf2 : Int) + b) ≠ 1 := by
              have := qt.2.2 (100 * (fi + i) + 64 * hf2 + b) (by omega) (by omega) hb2.2.2
              rwa [show (100 * (fi + (i : Int)) + 64 * hf2 + b) % 100 = 64 * (hf2 : Int) + b by omega] at this
            have hstep : rst (gonC eb to hot cool wt aims dw ex tw sh ww p bears mends en) st (100 * fi) (100 * i + 64 * hf2 + (b + 1)) = gonC eb to hot cool wt aims dw ex tw sh ww p bears mends en (100 * (fi + i) + (64 * hf2 + b)) (rst (gonC eb to hot cool wt aims dw ex tw sh ww p bears mends en) st (100 * fi) (100 * i + 64 * hf2 + t)) := by
              show (if (rst _ st (100 * fi) (100 * i + 64 * hf2 + b)).2.2.2.2 (100 * fi + ((100 * i + 64 * hf2 + b : Nat) : Int)) = true then gonC _ _ _ _ _ _ _ _ _ _ _ _ _ _ _ (100 * fi + ((100 * i + 64 * hf2 + b : Nat) : Int)) (rst _ st (100 * fi) (100 * i + 64 * hf2 + b)) else rst _ st (100 * fi) (100 * i + 64 * hf2 + b)) = _
              rw [sk, if_pos (by rw [← hnode, ← Int.add_assoc]; exact hb2.2.2), hnode]
            simp only [zi_mul, zi_add]
            refine p_goOn A qt.1 qt.2.1 h3 (by omega) (by omega) hnl ?_
            intro lw4 h4
            simp only [forall_eq]
            have lt := (gon_q (eb := eb) (dw := dw) (ww := ww) (k := 100 * (fi + i) + (64 * hf2 + b)) A qt (by omega) (by omega)).2
            refine hkb3 _ ⟨b + 1, lw4, left &&& (left - 1), ?_, ?_, by omega, by omega, fun c c64 => ?_⟩
            · rw [hstep]; rfl
            · rw [hstep]; exact h4
            · by_cases hcT : c < T
              case neg =>
                rw [lb_drop blow c64 bt, hbit c c64, decide_eq_false hcT]
                simp
              rw [lb_drop blow c64 bt, hbit c c64, hstep, (lt.1 (100 * (fi + i) + 64 * hf2 + c) (by omega)).1]
              by_cases hcb : c = b
              · subst hcb; rw [decide_eq_false (show ¬ c + 1 ≤ c by omega)]; simp
              · by_cases hcl : c < b
                · have h0 : (decide (t ≤ c) && (decide (c < T) && (rst (gonC eb to hot cool wt aims dw ex tw sh ww p bears mends en) st (100 * fi) (100 * i + 64 * hf2 + t)).2.2.2.2 (100 * (fi + i) + 64 * hf2 + c))) = false := by rw [← hbit c c64, blow c hcl]
                  rw [h0, decide_eq_false (show ¬ b + 1 ≤ c by omega)]
                  rfl
                · rw [decide_eq_true (show t ≤ c by omega), decide_eq_true (show b + 1 ≤ c by omega), decide_eq_true hcb, Bool.and_true]
        · refine ⟨0, lw2, _, rfl, hl2, Nat.le_refl _, Nat.zero_le _, fun b b64 => ?_⟩
          rw [lb_wrd (by omega) (by omega) b64, hl2 (fi + i) (64 * hf2 + b) (by omega) (by omega) (by omega) (by omega)]
          simp only [Nat.zero_le, decide_true, Bool.true_and, Nat.add_zero]
          rw [show 100 * (fi + (i : Int)) + (64 * (hf2 : Int) + b) = 100 * (fi + i) + 64 * hf2 + b by omega]
          congr 1
          rw [decide_eq_decide]
          omega
end RU
