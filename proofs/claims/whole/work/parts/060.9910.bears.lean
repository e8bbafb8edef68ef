/-! bears, hours: both sides -/
theorem qv_agr {nx nx' : Int → Int → Int} {val val' : Int → Int → Int → Int} {to k0 lim en p : Int} (G : Gv nx 5 to p) (h : ∀ k w, 0 ≤ k → k < 12000 → nx k w = nx' k w) (hv : ∀ k w v, 0 ≤ k → k < 12000 → val k w v = val' k w v) (h0 : 0 ≤ k0) (h1 : k0 < 12000) : ∀ (n : Nat) (k v : Int), qv nx val 5 to k0 lim en n k v → qv nx' val' 5 to k0 lim en n k v ∧ 0 ≤ k ∧ k < 12000
  | 0, k, v, q => ⟨q, by rw [q.1]; exact h0, by rw [q.1]; exact h1⟩
  | n + 1, k, v, q => by
    obtain ⟨j, u, w, hj, ht, w0, w1, hn, rfl, rfl, hl, he⟩ := q
    obtain ⟨i1, i2, i3⟩ := qv_agr G h hv h0 h1 n j u hj
    have g := G j w i2 i3 w0 w1 hn
    refine ⟨⟨j, u, w, i1, ht, w0, w1, ?_, h j w i2 i3, hv j w u i2 i3, hl, he⟩, hn, g.1⟩
    rw [← h j w i2 i3]; exact hn
theorem Brs_agr {nx nx' : Int → Int → Int} {val val' : Int → Int → Int → Int} {to k0 bears T p : Int} (G : Gv nx 5 to p) (G' : Gv nx' 5 to p) (h : ∀ k w, 0 ≤ k → k < 12000 → nx k w = nx' k w) (hv : ∀ k w v, 0 ≤ k → k < 12000 → val k w v = val' k w v) (h0 : 0 ≤ k0) (h1 : k0 < 12000) (hb : Brs nx val to k0 bears T) : Brs nx' val' to k0 bears T := by
  have f := fun n k v q => (qv_agr (lim := bears) (en := 119) G h hv h0 h1 n k v q).1
  have g := fun n k v q => (qv_agr (lim := bears) (en := 119) G' (fun k w a b => (h k w a b).symm) (fun k w v a b => (hv k w v a b).symm) h0 h1 n k v q).1
  rcases hb with z | ⟨z1, z2, ⟨n, v, z3⟩, z4⟩
  · exact Or.inl ⟨z.1, fun n m v a b q => z.2 n m v a b (g n _ v q)⟩
  · exact Or.inr ⟨z1, z2, ⟨n, v, f n _ v z3⟩, fun n m v a b q => z4 n m v a b (g n _ v q)⟩
/-- the shade of one day, as a function of the shade of all days -/
def dwC (shw : Nat → Int64) (d : Int) : Nat → Int64 := fun j => shw ((240 * d).toNat + j)
theorem dwC_R {shw : Nat → Int64} {d : Int} (hd : 0 ≤ d ∧ d < 4) : dwR shw (dwC shw d) d := by
  intro m s a b c e
  simp only [hb, dwC]
  congr 2
  omega
theorem dk_eq {shw dw dw' : Nat → Int64} {d : Int} (h : dwR shw dw d) (h' : dwR shw dw' d) (k : Int) : dkF dw k = dkF dw' k := by
  simp only [dkF, hbs]
  by_cases q : 0 ≤ k / 100 ∧ 2 * (k / 100) + 1 < ((240 : Nat) : Int) ∧ 0 ≤ k % 100 ∧ k % 100 < 100
  · rw [h _ _ (by omega) (by omega) (by omega) (by omega), h' _ _ (by omega) (by omega) (by omega) (by omega)]
  · rw [decide_eq_false q]; rfl
theorem htN_eq {dw dw' : Nat → Int64} (h : ∀ k, dkF dw k = dkF dw' k) {bears mends v k : Int} : ∀ n, htN bears mends dw v k n = htN bears mends dw' v k n
  | 0 => rfl
  | n + 1 => by simp only [htN, heatF]; rw [htN_eq h n, h]
theorem hV_eq {dw dw' : Nat → Int64} (h : ∀ k, dkF dw k = dkF dw' k) {bears mends p k w v : Int} {ww : Nat → Int64} {nx : Int → Int → Int} : hV dw bears mends ww nx p k w v = hV dw' bears mends ww nx p k w v := by
  simp only [hV, heatF, h, htN_eq h]
/-- when one is there, if one can bear it -/
noncomputable def brC (tw : Int → Int) (vf : Int → Int → Int → Int32) (shw ww : Nat → Int64) (wk d to k : Int) : Int := @dite _ (∃ T, Brs (nxT tw (shC tw vf d) (tw (383 + 7 * wk))) (fun k w v => hV (dwC shw d) (tw (384 + 7 * wk)) (tw (385 + 7 * wk)) ww (nxT tw (shC tw vf d) (tw (383 + 7 * wk))) (tw (383 + 7 * wk)) k w v) to k (tw (384 + 7 * wk)) T) (Classical.propDecidable _) (fun h => Classical.choose h) (fun _ => -1)
section BE
variable {pl : Pool} {tw : Int → Int} {vf : Int → Int → Int → Int32} {sl : Int} {kd hg : Int → Int} {wks : Nat → Option Nat} {shw : Nat → Int64} {ex nt : Int → Int} {ww sw gw : Nat → Int64} {op arg : Nat → Int32}
theorem brC_eq {dw : Nat → Int64} {wk d to k T : Int} {sh : Int → Int} (hd : 0 ≤ d ∧ d < 4) (hdw : dwR shw dw d) (hp : 1 ≤ tw (383 + 7 * wk) ∧ tw (383 + 7 * wk) ≤ 3) (hs : ∀ k, 0 ≤ k → k < 12000 → sh k = shC tw vf d k) (h0 : 0 ≤ k) (h1 : k < 12000) (h : Brs (nxT tw sh (tw (383 + 7 * wk))) (fun k w v => hV dw (tw (384 + 7 * wk)) (tw (385 + 7 * wk)) ww (nxT tw sh (tw (383 + 7 * wk))) (tw (383 + 7 * wk)) k w v) to k (tw (384 + 7 * wk)) T) : T = brC tw vf shw ww wk d to k := by
  have h2 : Brs (nxT tw (shC tw vf d) (tw (383 + 7 * wk))) (fun k w v => hV (dwC shw d) (tw (384 + 7 * wk)) (tw (385 + 7 * wk)) ww (nxT tw (shC tw vf d) (tw (383 + 7 * wk))) (tw (383 + 7 * wk)) k w v) to k (tw (384 + 7 * wk)) T := by
    refine Brs_agr (Gv_T hp) (Gv_T hp) (fun k w a b => nxT_agr hp hs a b) (fun k w v a b => ?_) h0 h1 h
    show hV dw _ _ ww _ _ k w v = _
    rw [hV_eq (fun k => dk_eq hdw (dwC_R hd) k)]
    simp only [hV]
    rw [nxT_agr hp hs a b]
  have ex : ∃ T, Brs (nxT tw (shC tw vf d) (tw (383 + 7 * wk))) (fun k w v => hV (dwC shw d) (tw (384 + 7 * wk)) (tw (385 + 7 * wk)) ww (nxT tw (shC tw vf d) (tw (383 + 7 * wk))) (tw (383 + 7 * wk)) k w v) to k (tw (384 + 7 * wk)) T := ⟨T, h2⟩
  rw [brC, dif_pos ex]
  exact Brs_uni h2 (Classical.choose_spec ex)
theorem snR_C (C : CS pl tw vf sl kd hg wks shw ex nt ww sw gw) {d : Int} (hd : 0 ≤ d ∧ d < 4) {sn shA : Int → Int} (h : dayR tw vf d sn shA) : snR sn (dwC shw d) := by
  intro k a b
  have q := CS_dk C hd (dwC_R hd) a b
  rcases (h k a b).1 with ⟨x, y⟩ | ⟨x, y⟩
  · exact Or.inl ⟨x, q.mpr y⟩
  · refine Or.inr ⟨x, ?_⟩
    cases e : dkF (dwC shw d) k
    · rfl
    · exact absurd (q.mp e) y
theorem p_bearsF (C : CS pl tw vf sl kd hg wks shw ex nt ww sw gw) {wk d m fr to : Int} (t : tripP tw wk d m fr to) {sn shA : Int → Int} (i2 : i32 shA) (h : dayR tw vf d sn shA) {t1 : Nat → Int32} {post : Int32 → (Nat → Int32) → Prop} (hp : ∀ R, post (zi (brC tw vf shw ww wk d to (100 * m + fr))) R) : wp_X12_bearsFrom (zA tw) (zA shA) (zA sn) t1 (zi wk) (zi m) (zi fr) (zi to) post := by
  obtain ⟨t1', t2', t3', t4', t5'⟩ := t
  have w := C.1.2.1 wk t1'.1.1 t1'.1.2 t1'.2
  refine p_bearsFrom (dw := dwC shw d) (ww := ww) C.1.1.1 i2 ⟨t1'.1, rfl, rfl, rfl, rfl, rfl, rfl⟩ (snR_C C t2' h) C.2.2.2.2.1 w.1 (by omega) (by omega) t5'.1 t3' t4'.1 (fun T R hB => ?_)
  have e := brC_eq (vf := vf) (shw := shw) t2' (dwC_R t2') w.1 (fun k a b => (dayR_C h a b).2) (by omega) (by omega) hB
  rw [e]
  exact hp R
noncomputable def bearsV (tw : Int → Int) (vf : Int → Int → Int → Int32) (shw ww : Nat → Int64) (wk d m fr to : Int) : Int := @ite Int (tripP tw wk d m fr to) (Classical.propDecidable _) (brC tw vf shw ww wk d to (100 * m + fr)) (-1)
theorem p_bearsR (C : CS pl tw vf sl kd hg wks shw ex nt ww sw gw) (hC : clR tw op arg vf) {sd : Int} {sy sn shA : Int → Int} (hD : dayI tw vf sd sy sn shA) {wk d m fr to : Int} (a1 : ir wk) (a2 : ir d) (a3 : ir m) (a4 : ir fr) (a5 : ir to) {th : Int32} {facts pile t1 : Nat → Int32} {post : Int32 → Int32 → Int32 → (Nat → Int32) → (Nat → Int32) → (Nat → Int32) → (Nat → Int32) → (Nat → Int32) → (Nat → Int32) → Prop}
    (h : ∀ (sd' : Int) (sy' sn' shA' : Int → Int) (f p r : Nat → Int32), dayI tw vf sd' sy' sn' shA' → post (zi (bearsV tw vf shw ww wk d m fr to)) 0 (zi sd') (zA sy') (zA sn') (zA shA') f p r) :
    wp_X12_bears (zA tw) op arg th (zi sd) (zA sy) (zA sn) (zA shA) facts pile t1 (zi wk) (zi d) (zi m) (zi fr) (zi to) post := by
  simp only [wp_X12_bears]
  refine p_isTrip C.1.1.1 a1 a2 a3 a4 a5 (fun t => ⟨fun _ => ?_, fun z => absurd z (by decide)⟩) (fun t => ⟨fun z => absurd rfl z, fun _ => ?_⟩)
  · refine p_laysDay C.1.1 hC t.2.1 hD.1 hD.2.2.1 hD.2.2.2.1 hD.2.2.2.2 hD.2.1 (fun sy' sn' shA' f p i1 i2 dr => ?_)
    obtain ⟨syf, rfl, i3⟩ := zA_ex sy'
    refine p_bearsF C t i2 dr (fun R => ?_)
    have t2 := t.2.1
    have := h d syf sn' shA' f p R ⟨by omega, i3, i1, i2, fun _ => dr⟩
    rwa [bearsV, if_pos t] at this
  · have := h sd sy sn shA facts pile t1 hD
    rwa [bearsV, if_neg t] at this
theorem p_bearsC (C : CS pl tw vf sl kd hg wks shw ex nt ww sw gw) {wk d m fr to : Int} (a1 : ir wk) (a2 : ir d) (a3 : ir m) (a4 : ir fr) (a5 : ir to) {o1 : Nat} {o2 o3 o4 o5 o6 o7 o8 o9 o10 o11 o12 : Int32} {dw0 lw0 : Nat → Int64} {t1 : Nat → Int32} {post : Int32 → Nat → Int32 → Int32 → Int32 → Int32 → Int32 → Int32 → Int32 → Int32 → Int32 → Int32 → Int32 → (Nat → Int64) → (Nat → Int64) → (Nat → Int32) → Prop}
    (h : ∀ (q1 : Nat) (y2 y3 y4 y5 y6 y7 y8 y9 y10 y11 y12 : Int32) (dw lw : Nat → Int64) (s1 : Nat → Int32), post (zi (bearsV tw vf shw ww wk d m fr to)) q1 y2 y3 y4 y5 y6 y7 y8 y9 y10 y11 y12 dw lw s1) :
    wp_X11_bears pl (zi sl) (zA kd) wks false shw (zA ex) (zA nt) ww sw o1 o2 o3 o4 o5 o6 o7 o8 o9 o10 o11 o12 dw0 lw0 t1 (zi wk) (zi d) (zi m) (zi fr) (zi to) post := by
  simp only [wp_X11_bears]
  refine p_ready C.1.1 C.1.2.2.1 C.1.2.2.2 a1 a2 a3 a4 a5 (fun t q dw hq hdw => ⟨fun _ => ⟨_, _, _, _, _, _, hq, ?_⟩, fun z => absurd z (by decide)⟩) (fun t => ⟨fun z => absurd rfl z, fun _ => ?_⟩)
  · rw [bearsV, if_pos t] at h
    obtain ⟨t1', t2', t3', t4', t5'⟩ := t
    have w := C.1.2.1 wk t1'.1.1 t1'.1.2 t1'.2
    have A := CS_ask C (wk := wk) (to := to) (aims := 3) (hot := 1) (cool := 0) (wt := 1) (en := 119) t2' (by omega) (by omega) t1' (by omega) (by omega) (by omega) (by omega)
    obtain ⟨c0, rfl, hc0⟩ := zi_ex o11
    refine p_bearable (eb := false) (dw := dw) (ww := ww) A t5'.1 (by decide) hc0 t3' t4'.1 t4'.2 rfl (fun q' lw' hB hS => ?_)
    have e := brC_eq (vf := vf) (shw := shw) t2' hdw w.1 (fun k a b => rfl) (by omega) (by omega) hB
    rw [e]
    exact h _ _ _ _ _ _ _ _ _ _ _ _ _ _ _
  · rw [bearsV, if_neg t] at h
    exact h _ _ _ _ _ _ _ _ _ _ _ _ _ _ _
end BE
