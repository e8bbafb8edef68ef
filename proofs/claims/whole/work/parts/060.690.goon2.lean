/-! the class's search: all pieces of a node -/
def aftN (eb : Bool) (hot cool aims : Int) (dw : Nat → Int64) (ex : Int → Int) (bears mends v k : Int) : Nat → Int
  | 0 => v
  | n + 1 => aftF eb hot cool aims dw ex bears mends (aftN eb hot cool aims dw ex bears mends v k n) (k + 100 * n)
def watF (ww : Nat → Int64) (s : Int) : Bool := hbs 2 ww 0 s
/-- what an offer is worth -/
def valF (eb : Bool) (hot cool aims : Int) (dw : Nat → Int64) (ex : Int → Int) (bears mends : Int) (ww : Nat → Int64) (nx : Int → Int → Int) (p k w v : Int) : Int :=
  if w = 4 then aftF eb hot cool aims dw ex bears mends v k
  else if aims = 3 ∧ watF ww (nx k w % 100) = true ∧ aftN eb hot cool aims dw ex bears mends v k p.toNat ≤ bears then 0
  else aftN eb hot cool aims dw ex bears mends v k p.toNat
def ofp (aims to en : Int) (nx : Int → Int → Int) (val : Int → Int) (k : Int) (st : Sst) (w : Int) : Sst := if 0 ≤ nx k w ∧ nx k w / 100 ≤ en then ofr aims to st (nx k w) (val w) else st
def of4 (aims to en : Int) (nx : Int → Int → Int) (val : Int → Int) (k : Int) (st : Sst) : Nat → Sst
  | 0 => st
  | n + 1 => ofp aims to en nx val k (of4 aims to en nx val k st n) n
def gon (aims to en wt : Int) (nx : Int → Int → Int) (val : Int → Int → Int → Int) (k : Int) (st : Sst) : Sst :=
  if st.1 < st.2.2.2.1 k ∨ k % 100 = to then st
  else of4 aims to en nx (fun w => val k w (st.2.2.2.1 k)) k (if wt = 0 then st else ofp aims to en nx (fun w => val k w (st.2.2.2.1 k)) k st 4) 4
theorem ofr_no {aims to k v : Int} {st : Sst} (h : st.1 < v) : ofr aims to st k v = st := by
  rw [ofr, if_neg (by omega)]
theorem ofr_most {aims to k v : Int} {st : Sst} (ha : 0 ≤ v) (h1 : -1 ≤ st.1) : -1 ≤ (ofr aims to st k v).1 ∧ (ofr aims to st k v).1 ≤ st.1 := by
  simp only [ofr]
  split
  · show -1 ≤ (if k % 100 = to then _ else st.1) ∧ (if k % 100 = to then _ else st.1) ≤ st.1
    repeat' split
    all_goals omega
  · omega
theorem of4_stay {aims to en : Int} {nx : Int → Int → Int} {val : Int → Int} {k : Int} {st : Sst} {i : Nat} (h : ∀ w : Int, i ≤ w → w < 4 → ¬ (0 ≤ nx k w ∧ nx k w / 100 ≤ en) ∨ (of4 aims to en nx val k st i).1 < val w) : ∀ j, i + j ≤ 4 → of4 aims to en nx val k st (i + j) = of4 aims to en nx val k st i
  | 0, _ => rfl
  | j + 1, hj => by
    have ih := of4_stay h j (by omega)
    show ofp aims to en nx val k (of4 aims to en nx val k st (i + j)) ((i + j : Nat) : Int) = _
    rw [ih, ofp]
    rcases h ((i + j : Nat) : Int) (by omega) (by omega) with h1 | h1
    · rw [if_neg h1]
    · split
      · exact ofr_no h1
      · rfl
section G2
variable {eb : Bool} {day to hot cool wt aims : Int} {dw : Nat → Int64} {ex nt tw sh : Int → Int} {sl : Int} {ww sw : Nat → Int64} {p bears mends en : Int}
/-- the words of the next squares and of the shut ones -/
def ntR (nt tw : Int → Int) : Prop := ∀ s w, 0 ≤ s → s < 100 → 0 ≤ w → w < 4 → nt (4 * s + w) = (if stp s w = -1 ∨ tw (stp s w) = 1 then -1 else stp s w)
def shR (day sl : Int) (sw : Nat → Int64) (sh : Int → Int) : Prop := (∀ m s, 0 ≤ m → m < 120 → 0 ≤ s → s < 100 → (hb sw (120 * day + m) s = true ↔ sh (100 * m + s) ≠ 0)) ∧ (sl = 0 → ∀ k, 0 ≤ k → k < 12000 → sh k = 0)
theorem p_nextTo {nt tw : Int → Int} (h : ntR nt tw) (hi : i32 nt) {s w : Int} (hs : 0 ≤ s ∧ s < 100) (hw : 0 ≤ w ∧ w < 4) {post : Int32 → Prop} (hp : post (zi (if stp s w = -1 ∨ tw (stp s w) = 1 then -1 else stp s w))) : wp_X6_nextTo (zA nt) (zi s) (zi w) post := by
  simp only [wp_X6_nextTo]
  refine p_isSquare (by omega) (fun _ => ⟨fun z => absurd z (by decide), fun _ => ?_⟩) (fun z => by omega)
  simp (disch := omega) only [forall_eq, zi_lit, zi_add, zi_sub, zi_mul, zi_neg, zi_lt, zi_le, zi_eq, zi_div, zi_rem, zi_in, zA_get, zA_upd]
  refine ⟨fun z => by omega, fun _ => ⟨fun z => by omega, fun _ => ⟨by omega, ?_⟩⟩⟩
  rw [h s w hs.1 hs.2 hw.1 hw.2]
  exact hp
theorem p_isShut (h : shR day sl sw sh) (hd : 0 ≤ day ∧ day < 4) {m s : Int} (hm : 0 ≤ m ∧ m < 120) (hs : 0 ≤ s ∧ s < 100) {post : Int32 → Prop} (hp : post (zi (b2i (hb sw (120 * day + m) s)))) : wp_X9_isShut (zi day) sw (zi m) (zi s) post := by
  simp only [wp_X9_isShut]
  refine p_row (p_has (by decide) (by omega) (by omega) ?_)
  rw [hbs_in (by omega), b2i_zi]
  refine ⟨?_, hp⟩
  cases hb sw (120 * day + m) s
  · exact Or.inl rfl
  · exact Or.inr rfl
theorem aftF_rng (hh : 0 ≤ hot ∧ hot ≤ 99) (hc : 0 ≤ cool ∧ cool ≤ 99) (hex : ∀ k, 0 ≤ k → k < 12000 → 0 ≤ ex k ∧ ex k ≤ 900) (hb : 0 ≤ bears ∧ bears ≤ 99) (hme : 0 ≤ mends ∧ mends ≤ 99) {v k : Int} (hv : 0 ≤ v) : 0 ≤ aftF eb hot cool aims dw ex bears mends v k ∧ (aftF eb hot cool aims dw ex bears mends v k ≤ v + 1000 ∨ aftF eb hot cool aims dw ex bears mends v k ≤ 268435456) ∧ (aims ≠ 3 → v ≤ aftF eb hot cool aims dw ex bears mends v k) := by
  simp only [aftF]
  split
  · simp only [heatF]
    split
    · next h3 h => 
      refine ⟨?_, ?_, fun z => absurd h3 z⟩
      · split
        · split <;> omega
        · omega
      · omega
    · omega
  · simp only [costF]
    have hq : 0 ≤ (if eb = true ∧ 0 ≤ k ∧ k < 12000 then ex k else 0) ∧ (if eb = true ∧ 0 ≤ k ∧ k < 12000 then ex k else 0) ≤ 900 := by
      split
      · next h => exact hex k h.2.1 h.2.2
      · omega
    generalize (if eb = true ∧ 0 ≤ k ∧ k < 12000 then ex k else 0) = q at *
    split <;> omega
theorem aft_mono {most : Int} (hh : 0 ≤ hot ∧ hot ≤ 99) (hc : 0 ≤ cool ∧ cool ≤ 99) (hex : ∀ k, 0 ≤ k → k < 12000 → 0 ≤ ex k ∧ ex k ≤ 900) (hb : 0 ≤ bears ∧ bears ≤ 99) (hme : 0 ≤ mends ∧ mends ≤ 99) (h3 : aims = 3 → most = bears) (hm : most ≤ 268435455) {v k : Int} (hv : 0 ≤ v ∧ (aims = 3 → most < v → v = 268435456)) (hvm : most < v) : most < aftF eb hot cool aims dw ex bears mends v k ∧ (aims = 3 → aftF eb hot cool aims dw ex bears mends v k = 268435456) := by
  by_cases ha : aims = 3
  · have hv2 := hv.2 ha hvm
    have e : aftF eb hot cool aims dw ex bears mends v k = 268435456 := by
      simp only [aftF, if_pos ha, heatF]
      rw [if_neg]
      split
      · split <;> omega
      · omega
    rw [e]
    exact ⟨by omega, fun _ => rfl⟩
  · have := (aftF_rng (eb := eb) (aims := aims) (dw := dw) (k := k) hh hc hex hb hme hv.1).2.2 ha
    exact ⟨by omega, fun z => absurd z ha⟩
theorem aftN_mono {most : Int} (hh : 0 ≤ hot ∧ hot ≤ 99) (hc : 0 ≤ cool ∧ cool ≤ 99) (hex : ∀ k, 0 ≤ k → k < 12000 → 0 ≤ ex k ∧ ex k ≤ 900) (hb : 0 ≤ bears ∧ bears ≤ 99) (hme : 0 ≤ mends ∧ mends ≤ 99) (h3 : aims = 3 → most = bears) (hm : most ≤ 268435455) {v k : Int} {i : Nat} (hv : 0 ≤ aftN eb hot cool aims dw ex bears mends v k i ∧ (aims = 3 → most < aftN eb hot cool aims dw ex bears mends v k i → aftN eb hot cool aims dw ex bears mends v k i = 268435456)) (hvm : most < aftN eb hot cool aims dw ex bears mends v k i) : ∀ j, most < aftN eb hot cool aims dw ex bears mends v k (i + j) ∧ 0 ≤ aftN eb hot cool aims dw ex bears mends v k (i + j) ∧ (aims = 3 → aftN eb hot cool aims dw ex bears mends v k (i + j) = 268435456)
  | 0 => ⟨hvm, hv.1, fun z => hv.2 z hvm⟩
  | j + 1 => by
    have ih := aftN_mono hh hc hex hb hme h3 hm hv hvm j
    have r := aftF_rng (eb := eb) (aims := aims) (dw := dw) (k := k + 100 * ((i + j : Nat) : Int)) hh hc hex hb hme ih.2.1
    have a := aft_mono (eb := eb) (dw := dw) (k := k + 100 * ((i + j : Nat) : Int)) hh hc hex hb hme h3 hm ⟨ih.2.1, fun z _ => ih.2.2 z⟩ ih.1
    exact ⟨a.1, r.1, a.2⟩
theorem aft_3 (h3 : aims = 3) {v k most : Int} (hm : most = bears) (h : most < aftF eb hot cool aims dw ex bears mends v k) : aftF eb hot cool aims dw ex bears mends v k = 268435456 := by
  simp only [aftF, if_pos h3, heatF] at h ⊢
  generalize (if dkF dw k = true then if 0 < v - mends then v - mends else 0 else v + 1) = u at *
  by_cases q : u ≤ bears
  · rw [if_pos q] at h; omega
  · rw [if_neg q]
theorem ofp_ok {nx : Int → Int → Int} {val : Int → Int} {k w : Int} {st : Sst} (hn : 0 ≤ nx k w → nx k w < 12000) (hS : Sok st) (hv : 0 ≤ val w ∧ val w ≤ 300000000) : Sok (ofp aims to en nx val k st w) := by
  simp only [ofp]
  split
  · next h => exact ofr_ok hS hv ⟨h.1, hn h.1⟩
  · exact hS
theorem of4_ok {nx : Int → Int → Int} {val : Int → Int} {k : Int} {st : Sst} (hn : ∀ w, 0 ≤ nx k w → nx k w < 12000) (hS : Sok st) (hv : ∀ w, 0 ≤ val w ∧ val w ≤ 300000000) : ∀ n, Sok (of4 aims to en nx val k st n)
  | 0 => hS
  | n + 1 => ofp_ok (hn _) (of4_ok hn hS hv n) (hv _)
/-- the sum of a step, with an early end -/
theorem p_go83 (ha : 0 ≤ aims ∧ aims ≤ 3) (hp : 1 ≤ p ∧ p ≤ 3) (hh : 0 ≤ hot ∧ hot ≤ 99) (hc : 0 ≤ cool ∧ cool ≤ 99) (hex : ∀ k, 0 ≤ k → k < 12000 → 0 ≤ ex k ∧ ex k ≤ 900) (hb : 0 ≤ bears ∧ bears ≤ 99) (hme : 0 ≤ mends ∧ mends ≤ 99) (hen : 0 ≤ en ∧ en ≤ 119) {most : Int} (h3 : aims = 3 → most = bears) (hmo : -1 ≤ most ∧ most ≤ 268435455) {m s v : Int} (hm : 0 ≤ m ∧ m < 120) (hs : 0 ≤ s ∧ s < 100) (hv : 0 ≤ v ∧ v ≤ 268435455) {xx : Int32 → Int32 → Int32 → (Nat → Int32) → (Nat → Int64) → Int32 → Int32 → Int32 → Int32 → Prop} {post : Int32 → Int32 → Int32 → (Nat → Int32) → (Nat → Int64) → Prop} {x1 x2 : Int32} {x3 : Nat → Int32} {x4 : Nat → Int64} {d0 t0 w0 n1 sl1 : Int32} {nt1 : Nat → Int32} {ww1 sw1 : Nat → Int64}
    (hx : ∀ u : Int, 0 ≤ u → u ≤ 300000000 → (u = aftN eb hot cool aims dw ex bears mends v (100 * m + s) p.toNat ∨ (most < u ∧ most < aftN eb hot cool aims dw ex bears mends v (100 * m + s) p.toNat ∧ (aims = 3 → aftN eb hot cool aims dw ex bears mends v (100 * m + s) p.toNat = 268435456))) → xx (zi most) x1 x2 x3 x4 (zi s) (zi en) (zi u) (zi (m + p))) :
    ∃ n, lp (wp_X9_goOn_L83 xx eb d0 t0 (zi hot) (zi cool) w0 (zi aims) dw (zA ex) nt1 sl1 ww1 sw1 n1 (zi bears) (zi mends) post) n (zi most, x1, x2, x3, x4, zi s, zi en, zi (aftN eb hot cool aims dw ex bears mends v (100 * m + s) 1), zi (m + p), zi (m + 1)) := by
  have hex2 : ∀ k, 0 ≤ k → k < 12000 → -1000 ≤ ex k ∧ ex k ≤ 1000 := fun k h0 h1 => by have := hex k h0 h1; omega
  obtain ⟨e, he, hle⟩ := pk_least (fun i : Nat => most < aftN eb hot cool aims dw ex bears mends v (100 * m + s) (1 + i) ∨ p - 1 ≤ (i : Int)) ⟨2, Or.inr (by omega)⟩
  have he2 : (e : Int) ≤ p - 1 := by
    refine Classical.byContradiction (fun hn => hle (p - 1).toNat (by omega) (Or.inr (by omega)))
  have hr : ∀ i, i ≤ e → 0 ≤ aftN eb hot cool aims dw ex bears mends v (100 * m + s) (1 + i) ∧ aftN eb hot cool aims dw ex bears mends v (100 * m + s) (1 + i) ≤ 268436456 ∧ (aims = 3 → most < aftN eb hot cool aims dw ex bears mends v (100 * m + s) (1 + i) → aftN eb hot cool aims dw ex bears mends v (100 * m + s) (1 + i) = 268435456) := by
    intro i hi
    have hprev : 0 ≤ aftN eb hot cool aims dw ex bears mends v (100 * m + s) i ∧ aftN eb hot cool aims dw ex bears mends v (100 * m + s) i ≤ 268435455 := by
      induction i with
      | zero => exact hv
      | succ i ih =>
        have h1 := hle i (by omega)
        have h2 := ih (by omega)
        have r := aftF_rng (eb := eb) (aims := aims) (dw := dw) (k := 100 * m + s + 100 * (i : Int)) hh hc hex hb hme h2.1
        rw [Nat.add_comm 1 i] at h1
        have h3' : ¬ most < aftN eb hot cool aims dw ex bears mends v (100 * m + s) (i + 1) := fun z => h1 (Or.inl z)
        exact ⟨r.1, by omega⟩
    have r := aftF_rng (eb := eb) (aims := aims) (dw := dw) (k := 100 * m + s + 100 * (i : Int)) hh hc hex hb hme hprev.1
    rw [Nat.add_comm 1 i]
    refine ⟨r.1, ?_, fun q z => aft_3 q (h3 q) z⟩
    show aftF eb hot cool aims dw ex bears mends (aftN eb hot cool aims dw ex bears mends v (100 * m + s) i) (100 * m + s + 100 * (i : Int)) ≤ _
    omega
  refine lp_for0 (fun i => (zi most, x1, x2, x3, x4, zi s, zi en, zi (aftN eb hot cool aims dw ex bears mends v (100 * m + s) (1 + i)), zi (m + p), zi (m + 1 + i))) e (by simp) (fun kb => ?_) (fun i hi kb hkb => ?_)
  · have r := hr e (Nat.le_refl _)
    simp (disch := omega) only [wp_X9_goOn_L83, zi_le, zi_lt]
    have hfin : most < aftN eb hot cool aims dw ex bears mends v (100 * m + s) (1 + e) ∨ (e : Int) = p - 1 := by
      rcases he with z | z
      · exact Or.inl z
      · exact Or.inr (by omega)
    have hxx := hx (aftN eb hot cool aims dw ex bears mends v (100 * m + s) (1 + e)) r.1 (by omega) (by
      by_cases hq : (e : Int) = p - 1
      · exact Or.inl (by rw [show p.toNat = 1 + e by omega])
      · refine Or.inr ?_
        have hmm : most < aftN eb hot cool aims dw ex bears mends v (100 * m + s) (1 + e) := hfin.resolve_right hq
        have am := aftN_mono (eb := eb) (dw := dw) hh hc hex hb hme h3 (by omega) ⟨r.1, r.2.2⟩ hmm (p.toNat - (1 + e))
        rw [show 1 + e + (p.toNat - (1 + e)) = p.toNat by omega] at am
        exact ⟨hmm, am.1, am.2.2⟩)
    refine ⟨fun _ => hxx, fun z => ⟨fun _ => hxx, fun y => ?_⟩⟩
    rcases hfin with q | q
    · exact absurd q y
    · omega
  · have r := hr i (by omega)
    have hn := hle i hi
    have hn1 : ¬ most < aftN eb hot cool aims dw ex bears mends v (100 * m + s) (1 + i) := fun z => hn (Or.inl z)
    have hn2 : ¬ p - 1 ≤ (i : Int) := fun z => hn (Or.inr z)
    simp (disch := omega) only [wp_X9_goOn_L83, zi_le, zi_lt]
    refine ⟨fun z => by omega, fun _ => ⟨fun z => absurd z hn1, fun _ => ?_⟩⟩
    refine p_after hh hc ha hex2 hb hme (by omega) (by omega) hs ?_
    simp only [forall_eq, zi_lit, zi_add]
    have e1 : 100 * (m + 1 + (i : Int)) + s = 100 * m + s + 100 * ((1 + i : Nat) : Int) := by omega
    have e2 : m + 1 + (i : Int) + 1 = m + 1 + ((i + 1 : Nat) : Int) := by omega
    rw [e1, e2]
    exact hkb
end G2
