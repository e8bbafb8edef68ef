/-! towns that differ in what stands on squares alone; pull, both sides -/
section AG
variable {pl : Pool} {tw tv : Int → Int} {vf : Int → Int → Int → Int32} {kd hg : Int → Int} {wks suns : Nat → Option Nat} {op arg : Nat → Int32} {ww : Nat → Int64}
def agT (tw tv : Int → Int) : Prop := ∀ k, 200 ≤ k → tv k = tw k
theorem agT_symm (h : agT tw tv) : agT tv tw := fun k hk => (h k hk).symm
theorem twR_ag (h : twR tw) (a : agT tw tv) (i : i32 tv) (hs : ∀ s, 0 ≤ s → s < 100 → (0 ≤ tv s ∧ tv s ≤ 3) ∧ 0 ≤ tv (100 + s) ∧ tv (100 + s) ≤ 99) : twR tv := by
  obtain ⟨-, -, h3, h4, h5, h6⟩ := h
  refine ⟨i, hs, by rw [a 261 (by omega)]; exact h3, fun j j0 j1 => ?_, by rw [a 200 (by omega)]; exact h5, fun j j0 j1 => ?_⟩
  · rw [a 261 (by omega)] at j1
    rw [a _ (by omega), a (263 + 5 * j) (by omega), a (264 + 5 * j) (by omega), a (265 + 5 * j) (by omega), a (266 + 5 * j) (by omega)]
    exact h4 j j0 j1
  · rw [a 200 (by omega)] at j1
    rw [a (201 + 3 * j) (by omega), a (202 + 3 * j) (by omega)]
    exact h6 j j0 j1
theorem wkOk_ag (h : wkOk tw) (a : agT tw tv) : wkOk tv := by
  intro w w0 w1 w2
  rw [a (382 + 7 * w) (by omega)] at w2
  rw [a (383 + 7 * w) (by omega), a (384 + 7 * w) (by omega), a (385 + 7 * w) (by omega), a (386 + 7 * w) (by omega), a (387 + 7 * w) (by omega), a (388 + 7 * w) (by omega)]
  exact h w w0 w1 w2
theorem wkR2_ag (h : wkR2 pl tw wks) (a : agT tw tv) : wkR2 pl tv wks := by
  intro w w0 w1
  rw [a (382 + 7 * w) (by omega), a (383 + 7 * w) (by omega), a (384 + 7 * w) (by omega), a (385 + 7 * w) (by omega), a (386 + 7 * w) (by omega), a (387 + 7 * w) (by omega), a (388 + 7 * w) (by omega)]
  exact h w w0 w1
theorem suR_ag (h : suR pl tw suns) (a : agT tw tv) : suR pl tv suns := by
  intro j j0 j1
  rw [a 261 (by omega)] at j1
  rw [a (262 + 5 * j) (by omega), a (263 + 5 * j) (by omega), a (264 + 5 * j) (by omega), a (265 + 5 * j) (by omega), a (266 + 5 * j) (by omega)]
  exact h j j0 j1
theorem waR_ag (h : waR tw ww) (a : agT tw tv) : waR tv ww := by
  refine ⟨by rw [a 424 (by omega)]; exact h.1, fun s s0 s1 => ?_⟩
  rw [h.2 s s0 s1, a 424 (by omega)]
  refine ⟨fun ⟨i, i0, i1, i2⟩ => ⟨i, i0, i1, by rw [a _ (by omega)]; exact i2⟩, fun ⟨i, i0, i1, i2⟩ => ⟨i, i0, i1, by rw [a _ (by omega)] at i2; exact i2⟩⟩
theorem clR_ag (h : clR tw op arg vf) (a : agT tw tv) : clR tv op arg vf := by
  intro i d m i0 i1 d0 d1 m0 m1
  rw [a 200 (by omega)] at i1
  rw [a _ (by omega)]
  exact h i d m i0 i1 d0 d1 m0 m1
theorem clP_ag (a : agT tw tv) (what d m s : Int) : clP tv vf what d m s (tv 200) = clP tw vf what d m s (tw 200) := by
  rw [a 200 (by omega)]
  refine propext ⟨fun ⟨i, i0, i1, i2, i3, i4⟩ => ⟨i, i0, i1, by rw [← a _ (by omega)]; exact i2, by rw [← a _ (by omega)]; exact i3, i4⟩, fun ⟨i, i0, i1, i2, i3, i4⟩ => ⟨i, i0, i1, by rw [a _ (by omega)]; exact i2, by rw [a _ (by omega)]; exact i3, i4⟩⟩
theorem lnN_ag (a : agT tw tv) (d m : Int) : ∀ n, lnN tv d m n = lnN tw d m n
  | 0 => rfl
  | n + 1 => by rw [lnN, lnN, lnN_ag a d m n, a _ (by omega), a _ (by omega)]
theorem lnT_ag (a : agT tw tv) (d m : Int) : lnT tv d m = lnT tw d m := by rw [lnT, lnT, a 261 (by omega), lnN_ag a]
theorem shC_ag (a : agT tw tv) (d : Int) : shC tv vf d = shC tw vf d := by
  funext k
  have e := clP_ag (vf := vf) a 4 d (k / 100) (k % 100)
  rcases shC_01 tv vf d k with ⟨x, y⟩ | ⟨x, y⟩ <;> rcases shC_01 tw vf d k with ⟨u, v⟩ | ⟨u, v⟩
  · rw [x, u]
  · rw [e] at y; exact absurd y v
  · rw [e] at y; exact absurd v y
  · rw [x, u]
theorem tripP_ag (a : agT tw tv) {wk d m fr to : Int} (h1 : tw fr ≠ 1 → tv fr ≠ 1) (h2 : tw to ≠ 1 → tv to ≠ 1) (t : tripP tw wk d m fr to) : tripP tv wk d m fr to := by
  obtain ⟨t1, t2, t3, t4, t5⟩ := t
  exact ⟨⟨t1.1, by rw [a _ (by omega)]; exact t1.2⟩, t2, t3, ⟨t4.1, h1 t4.2⟩, ⟨t5.1, h2 t5.2⟩⟩
/-- what stands on one square is another thing -/
def putT (tw : Int → Int) (s k h : Int) : Int → Int := upI (upI tw s k) (100 + s) h
theorem putT_ag {s k h : Int} (hs : 0 ≤ s ∧ s < 100) : agT tw (putT tw s k h) := fun j hj => by rw [putT, upI_n (by omega), upI_n (by omega)]
theorem putT_k {s k h : Int} (hs : 0 ≤ s ∧ s < 100) (j : Int) (hj : j < 100) : putT tw s k h j = if j = s then k else tw j := by
  rw [putT, upI_n (by omega)]
  rfl
theorem putT_h {s k h : Int} (hs : 0 ≤ s ∧ s < 100) (j : Int) (hj : 0 ≤ j) : putT tw s k h (100 + j) = if j = s then h else tw (100 + j) := by
  rw [putT]
  by_cases q : j = s
  · rw [q, upI_s, if_pos rfl]
  · rw [upI_n (by omega), upI_n (by omega), if_neg q]
theorem putT_i {s k h : Int} (hT : i32 tw) (hk : 0 ≤ k ∧ k ≤ 3) (hh : 0 ≤ h ∧ h ≤ 99) : i32 (putT tw s k h) := i32_up (i32_up hT (by omega)) (by omega)
theorem putT_R {s k h : Int} (hT : twR tw) (hs : 0 ≤ s ∧ s < 100) (hk : 0 ≤ k ∧ k ≤ 3) (hh : 0 ≤ h ∧ h ≤ 99) : twR (putT tw s k h) := by
  refine twR_ag hT (putT_ag hs) (putT_i hT.1 hk hh) (fun j j0 j1 => ?_)
  have := hT.2.1 j j0 j1
  rw [putT_k hs j j1, putT_h hs j j0]
  split <;> omega
theorem putT_kd {s k h : Int} (hK : kdR tw kd hg) (hs : 0 ≤ s ∧ s < 100) (hk : 0 ≤ k ∧ k ≤ 3) (hh : 0 ≤ h ∧ h ≤ 99) : kdR (putT tw s k h) (upI kd s k) (upI hg s h) := by
  refine ⟨i32_up hK.1 (by omega), i32_up hK.2.1 (by omega), fun j j0 j1 => ?_⟩
  have := hK.2.2 j j0 j1
  rw [putT_k hs j j1, putT_h hs j j0]
  by_cases q : j = s
  · subst q; rw [upI_s, upI_s, if_pos rfl, if_pos rfl]; exact ⟨rfl, rfl⟩
  · rw [upI_n q, upI_n q, if_neg q, if_neg q]; exact this
theorem putT_back {s k h : Int} (hs : 0 ≤ s ∧ s < 100) : putT (putT tw s k h) s (tw s) (tw (100 + s)) = tw := by
  funext j
  simp only [putT]
  by_cases q : j = 100 + s
  · rw [q, upI_s]
  · rw [upI_n q]
    by_cases r : j = s
    · rw [r, upI_s]
    · rw [upI_n r, upI_n q, upI_n r]
theorem p_putTown {s k h : Int} (hs : 0 ≤ s ∧ s < 100) {post : (Nat → Int32) → (Nat → Int32) → Prop} (hp : post (zA (upI kd s k)) (zA (upI hg s h))) : wp_X8_put (zA kd) (zA hg) (zi s) (zi k) (zi h) post := by
  simp only [wp_X8_put]
  refine p_isSquare (by omega) (fun _ => ⟨fun z => absurd z (by decide), fun _ => ?_⟩) (fun q => absurd hs q)
  simp (disch := omega) only [forall_eq, zi_in, zA_upd]
  exact ⟨by omega, by omega, hp⟩
/-- the sky over a town that is another on its squares -/
theorem p_buildAg {aw : Nat → Int64} (hT : twR tv) (hK : kdR tv kd hg) (hs : suR pl tv suns) (a : agT tw tv) (hA : wR 960 aw (fun r s => clP tw vf 3 (r / 120) (r % 120) s (tw 200))) {rw0 gw0 cw0 sw0 : Nat → Int64} {t1 t2 : Nat → Int32} {post : (Nat → Int64) → (Nat → Int64) → (Nat → Int32) → (Nat → Int32) → (Nat → Int64) → (Nat → Int64) → Prop} (hp : ∀ (rw' gw : Nat → Int64) (nt ln : Int → Int) (cw sw : Nat → Int64), skR tv vf rw' gw nt ln cw sw → post rw' gw (zA nt) (zA ln) cw sw) : wp_X6_build pl (zi (tw 261)) (zA kd) suns (zA hg) aw rw0 gw0 t1 t2 cw0 sw0 post := by
  rw [← a 261 (by omega)]
  refine p_build hT hK hs (fun r s r0 r1 s0 s1 => ?_) hp
  show _ ↔ s < 100 ∧ clP tv vf 3 (r / 120) (r % 120) s (tv 200)
  rw [clP_ag a]
  exact hA r s r0 r1 s0 s1
noncomputable def pullV (tw : Int → Int) (s : Int) : Int := if (0 ≤ s ∧ s < 100) ∧ tw s = 1 then 1 else 0
theorem p_pullC (hT : twR tw) (hK : kdR tw kd hg) (hs : suR pl tw suns) {aw : Nat → Int64} (hA : wR 960 aw (fun r s => clP tw vf 3 (r / 120) (r % 120) s (tw 200))) {rw0 gw0 cw0 sw0 : Nat → Int64} {t1 t2 : Nat → Int32} {s : Int} (a1 : ir s) {post : Int32 → (Nat → Int32) → (Nat → Int32) → (Nat → Int64) → (Nat → Int64) → (Nat → Int32) → (Nat → Int32) → (Nat → Int64) → (Nat → Int64) → Prop} (h1 : (0 ≤ s ∧ s < 100) ∧ tw s = 1 → ∀ (rw' gw : Nat → Int64) (nt ln : Int → Int) (cw sw : Nat → Int64), skR (putT tw s 0 0) vf rw' gw nt ln cw sw → post (zi (pullV tw s)) (zA (upI kd s 0)) (zA (upI hg s 0)) rw' gw (zA nt) (zA ln) cw sw) (h0 : ¬ ((0 ≤ s ∧ s < 100) ∧ tw s = 1) → post (zi (pullV tw s)) (zA kd) (zA hg) rw0 gw0 t1 t2 cw0 sw0) : wp_X11_pull pl (zi (tw 261)) suns aw (zA kd) (zA hg) rw0 gw0 t1 t2 cw0 sw0 (zi s) post := by
  have g0 : ¬ ((0 ≤ s ∧ s < 100) ∧ tw s = 1) → post 0 (zA kd) (zA hg) rw0 gw0 t1 t2 cw0 sw0 := fun q => by have := h0 q; rw [pullV, if_neg q] at this; exact this
  simp only [wp_X11_pull]
  refine p_isSquare a1 (fun q => ⟨fun z => absurd z (by decide), fun _ => ?_⟩) (fun q => ⟨fun _ => g0 (fun y => q y.1), fun z => absurd rfl z⟩)
  have k1 := (hK.2.2 s q.1 q.2).1
  have ts := hT.1 s
  simp (disch := omega) only [zi_lit, zi_in, zA_get, k1, zi_eq]
  refine ⟨by omega, fun y => ?_, fun y => g0 (fun u => y u.2)⟩
  refine p_putTown q ?_
  refine p_buildAg (putT_R hT q (by decide) (by decide)) (putT_kd hK q (by decide) (by decide)) (suR_ag hs (putT_ag q)) (putT_ag q) hA (fun rw' gw nt ln cw sw hk => ?_)
  have := h1 ⟨q, y⟩ rw' gw nt ln cw sw hk
  rw [pullV, if_pos ⟨q, y⟩] at this
  exact this
theorem p_pullR (hT : twR tw) {sd : Int32} {s : Int} (a1 : ir s) {th : Int32} {post : Int32 → Int32 → Int32 → (Nat → Int32) → Prop} (h1 : (0 ≤ s ∧ s < 100) ∧ tw s = 1 → post (zi (pullV tw s)) 0 (zi (-1)) (zA (putT tw s 0 0))) (h0 : ¬ ((0 ≤ s ∧ s < 100) ∧ tw s = 1) → post (zi (pullV tw s)) 0 sd (zA tw)) : wp_X12_pull th sd (zA tw) (zi s) post := by
  have g0 : ¬ ((0 ≤ s ∧ s < 100) ∧ tw s = 1) → post 0 0 sd (zA tw) := fun q => by have := h0 q; rw [pullV, if_neg q] at this; exact this
  simp only [wp_X12_pull]
  refine p_isSquareR a1 (fun q => ⟨fun z => absurd z (by decide), fun _ => ?_⟩) (fun q => ⟨fun _ => g0 (fun y => q y.1), fun z => absurd rfl z⟩)
  have ts := hT.1 s
  simp (disch := omega) only [forall_eq, zi_lit, zi_neg, zi_in, zA_get, zi_eq, zi_add, zA_upd]
  refine ⟨by omega, fun y => ⟨by omega, by omega, ?_⟩, fun y => g0 (fun u => y u.2)⟩
  have := h1 ⟨q, y⟩
  rw [pullV, if_pos ⟨q, y⟩] at this
  exact this
end AG
