/-! rows that agree as far as they go; towns changed in one thing -/
section RW
variable {T f g sp sp' : Int → Int} {vf : Int → Int → Int → Int32} {z : Int}
theorem parS_cong {sn : Int → Int} {m p : Int} : ∀ n : Nat, (∀ i : Nat, i < n → f (i / p) = g (i / p)) → parS sn f m p n = parS sn g m p n
  | 0, _ => rfl
  | n + 1, h => by rw [parS, parS, parS_cong n (fun i hi => h i (by omega)), h n (by omega)]
theorem parV_cong {sn : Int → Int} {m p : Int} (hz : 0 ≤ z ∧ z ≤ 30) (h : ∀ j, 0 ≤ j → j < z → f j = g j) (hp : 1 ≤ p ∧ p ≤ 3) : parV sn f z m p = parV sn g z m p := by
  rw [parV, parV]
  by_cases q : z = 0 ∨ 119 < m + p * (z - 1)
  · rw [if_pos q, if_pos q]
  · rw [if_neg q, if_neg q]
    refine parS_cong _ (fun i hi => ?_)
    have d := pr_dv (z := z) (by omega) hp hi
    exact h _ d.1 d.2.1
theorem paradeV_cong {d m p : Int} (hz : 0 ≤ z ∧ z ≤ 30) (h : ∀ j, 0 ≤ j → j < z → f j = g j) : paradeV T vf f z d m p = paradeV T vf g z d m p := by
  rw [paradeV, paradeV]
  by_cases q : ((0 ≤ d ∧ d < 4) ∧ (0 ≤ m ∧ m < 120)) ∧ 1 ≤ p ∧ p ≤ 3
  · rw [if_pos q, if_pos q, parV_cong hz h q.2]
  · rw [if_neg q, if_neg q]
theorem startV_cong {d fi la p : Int} (hz : 0 ≤ z ∧ z ≤ 30) (h : ∀ j, 0 ≤ j → j < z → f j = g j) : startV T vf f z d fi la p = startV T vf g z d fi la p := by
  rw [startV, startV]
  by_cases q : (((0 ≤ d ∧ d < 4) ∧ (0 ≤ fi ∧ fi < 120)) ∧ (0 ≤ la ∧ la < 120)) ∧ 1 ≤ p ∧ p ≤ 3
  · have e : (fun m => parV (snC T vf d) f z m p) = (fun m => parV (snC T vf d) g z m p) := by funext m; exact parV_cong hz h q.2
    rw [if_pos q, if_pos q, e]
  · rw [if_neg q, if_neg q]
theorem folP_cong {s : Int} (hz : 0 ≤ z ∧ z ≤ 30) (h : ∀ j, 0 ≤ j → j < z → f j = g j) : folP T f z s = folP T g z s := by
  rw [folP, folP]
  by_cases q : z = 0
  · simp [q]
  · rw [h (z - 1) (by omega) (by omega)]
theorem folV_cong {s : Int} (hz : 0 ≤ z ∧ z ≤ 30) (h : ∀ j, 0 ≤ j → j < z → f j = g j) : folV T f z s = folV T g z s := by
  rw [folV, folV, folP_cong hz h]
theorem spotP_cong {s : Int} (h : ∀ j, 0 ≤ j → j < z → f j = g j) : spotP T f z s = spotP T g z s := by
  rw [spotP, spotP]
  refine propext ⟨fun ⟨a, b, c, d⟩ => ⟨a, b, c, fun j j0 j1 => by rw [← h j j0 j1]; exact d j j0 j1⟩, fun ⟨a, b, c, d⟩ => ⟨a, b, c, fun j j0 j1 => by rw [h j j0 j1]; exact d j j0 j1⟩⟩
theorem spotV_cong {s : Int} (h : ∀ j, 0 ≤ j → j < z → f j = g j) : spotV T f z s = spotV T g z s := by
  rw [spotV, spotV, spotP_cong h]
theorem spO_cong (h : ∀ j, 0 ≤ j → j < z → f j = g j) (o : spO T g z) : spO T f z := by
  refine ⟨o.1, fun i i0 i1 => ?_⟩
  have q := o.2 i i0 i1
  rw [h i i0 i1]
  exact ⟨q.1, q.2.1, fun j j0 j1 => by rw [h j j0 (by omega)]; exact q.2.2 j j0 j1⟩
theorem trG_cong {S K H : Int} : ∀ n : Nat, (∀ i : Nat, i < n → f i = g i) → trG T f S K H n = trG T g S K H n
  | 0, _ => rfl
  | n + 1, h => by rw [trG, trG, trG_cong n (fun i hi => h i (by omega)), h n (by omega)]
theorem spotsO_cong {wk d m fr to h many w : Int} (hz : 0 ≤ z ∧ z ≤ 8) (hh : ∀ j, 0 ≤ j → j < z → f j = g j) : spotsO T f vf z wk d m fr to h many w = spotsO T g vf z wk d m fr to h many w := by
  have e : lsS T f vf d (T (383 + 7 * wk)) to (100 * m + fr) h z = lsS T g vf d (T (383 + 7 * wk)) to (100 * m + fr) h z := by
    funext S
    rw [lsS, lsS, trG_cong z.toNat (fun i hi => hh i (by omega) (by omega))]
  rw [spotsO, spotsO, e]
theorem spO_add {s : Int} (o : spO T g z) (hp : spotP T g z s) : spO T (upI g z s) (z + 1) := by
  refine ⟨by have := o.1; have := hp.2.2.1; omega, fun i i0 i1 => ?_⟩
  by_cases q : i = z
  · subst q
    rw [upI_s]
    exact ⟨hp.1, hp.2.1, fun j j0 j1 => by rw [upI_n (by omega)]; exact hp.2.2.2 j j0 j1⟩
  · have h := o.2 i i0 (by omega)
    rw [upI_n q]
    exact ⟨h.1, h.2.1, fun j j0 j1 => by rw [upI_n (by omega)]; exact h.2.2 j j0 j1⟩
theorem chR_add {lim s : Int} (c : chR z lim f g) (hl : z < lim) (a : ir s) : chR (z + 1) lim (upI f z s) (upI g z s) := by
  refine ⟨by have := c.1; omega, i32_up c.2.1 a, i32_up c.2.2.1 a, fun j j0 j1 => ?_⟩
  by_cases q : j = z
  · rw [q, upI_s, upI_s]
  · rw [upI_n q, upI_n q]; exact c.2.2.2 j j0 (by omega)
theorem val_add {s lo hi : Int} (h : ∀ j, 0 ≤ j → j < z → lo ≤ g j ∧ g j < hi) (hs : lo ≤ s ∧ s < hi) : ∀ j, 0 ≤ j → j < z + 1 → lo ≤ upI g z s j ∧ upI g z s j < hi := by
  intro j a b
  by_cases q : j = z
  · rw [q, upI_s]; exact hs
  · rw [upI_n q]; exact h j a (by omega)
theorem val_le {s lo hi : Int} (h : ∀ j, 0 ≤ j → j < z → lo ≤ g j ∧ g j ≤ hi) (hs : lo ≤ s ∧ s ≤ hi) : ∀ j, 0 ≤ j → j < z + 1 → lo ≤ upI g z s j ∧ upI g z s j ≤ hi := by
  intro j a b
  by_cases q : j = z
  · rw [q, upI_s]; exact hs
  · rw [upI_n q]; exact h j a (by omega)
theorem fed_ok {a b c : Int64} (hz : 0 ≤ z ∧ z ≤ 1000) (hf : i32 f) (ht : tokB f z) : (0 ≤ (fedT a b c z f).1 ∧ (fedT a b c z f).1 ≤ 1000) ∧ i32 (fedT a b c z f).2 ∧ tokB (fedT a b c z f).2 (fedT a b c z f).1 := by
  have r1 := layN_rng (x := a) (f := f) hz 8
  have o1 := layN_ok (x := a) hf ht hz.1 8
  have r2 := layN_rng (x := b) (f := (layN a z f 8).2) r1 8
  have o2 := layN_ok (x := b) o1.1 o1.2.1 o1.2.2 8
  have r3 := layN_rng (x := c) (f := (layN b (layN a z f 8).1 (layN a z f 8).2 8).2) r2 8
  have o3 := layN_ok (x := c) o2.1 o2.2.1 o2.2.2 8
  exact ⟨r3, o3.1, o3.2.1⟩
end RW
section TB
variable {pl : Pool} {T : Int → Int} {vf : Int → Int → Int → Int32} {Z : TS} {ps fo td : Int} {pr fr tr : Int → Int}
theorem twB_fol (h : twB pl T vf Z ps fo td pr fr tr) {fo' : Int} {fc' fr' : Int → Int} (hc : chR fo' 30 fc' fr') (hv : ∀ j, 0 ≤ j → j < fo' → 0 ≤ fr' j ∧ fr' j < 100) : twB pl T vf (u1 Z.1 5 (zi fo'), u1 Z.2.1 3 (zA fc'), Z.2.2.1, Z.2.2.2) ps fo' td pr fr' tr := by
  obtain ⟨sl, al, kd, hg, pc, fc, tc, e1, ⟨a1, a2, a3, a4, a5, a6⟩, t, ⟨c1, c2, c3⟩, h5, h6, h7⟩ := h
  exact ⟨sl, al, kd, hg, pc, fc', tc, e1, ⟨a1, a2, rfl, rfl, a5, a6⟩, t, ⟨c1, hc, c3⟩, h5, hv, h7⟩
theorem twB_tel (h : twB pl T vf Z ps fo td pr fr tr) {td' : Int} {tc' tr' : Int → Int} (hc : chR td' 60 tc' tr') (hv : ∀ j, 0 ≤ j → j < td' → 0 ≤ tr' j ∧ tr' j ≤ 4) : twB pl T vf (u1 Z.1 6 (zi td'), u1 Z.2.1 4 (zA tc'), Z.2.2.1, Z.2.2.2) ps fo td' pr fr tr' := by
  obtain ⟨sl, al, kd, hg, pc, fc, tc, e1, ⟨a1, a2, a3, a4, a5, a6⟩, t, ⟨c1, c2, c3⟩, h5, h6, h7⟩ := h
  exact ⟨sl, al, kd, hg, pc, fc, tc', e1, ⟨a1, a2, a3, a4, rfl, rfl⟩, t, ⟨c1, c2, hc⟩, h5, h6, hv⟩
theorem twB_spt (h : twB pl T vf Z ps fo td pr fr tr) {ps' : Int} {pc' pr' : Int → Int} (hc : chR ps' 8 pc' pr') (hv : spO T pr' ps') : twB pl T vf (u1 Z.1 4 (zi ps'), u1 Z.2.1 2 (zA pc'), Z.2.2.1, Z.2.2.2) ps' fo td pr' fr tr := by
  obtain ⟨sl, al, kd, hg, pc, fc, tc, e1, ⟨a1, a2, a3, a4, a5, a6⟩, t, ⟨c1, c2, c3⟩, h5, h6, h7⟩ := h
  exact ⟨sl, al, kd, hg, pc', fc, tc, e1, ⟨rfl, rfl, a3, a4, a5, a6⟩, t, ⟨hc, c2, c3⟩, hv, h6, h7⟩
theorem twB_clr (h : twB pl T vf Z ps fo td pr fr tr) : twB pl T vf (u1 (u1 Z.1 5 (zi 0)) 6 (zi 0), Z.2.1, Z.2.2.1, Z.2.2.2) ps 0 0 pr fr tr := by
  obtain ⟨sl, al, kd, hg, pc, fc, tc, e1, ⟨a1, a2, a3, a4, a5, a6⟩, t, ⟨c1, c2, c3⟩, h5, h6, h7⟩ := h
  exact ⟨sl, al, kd, hg, pc, fc, tc, e1, ⟨a1, a2, rfl, a4, rfl, a6⟩, t, ⟨c1, ⟨by omega, c2.2.1, c2.2.2.1, fun j a b => by omega⟩, ⟨by omega, c3.2.1, c3.2.2.1, fun j a b => by omega⟩⟩, h5, fun j a b => by omega, fun j a b => by omega⟩
theorem zA_inj {f g : Int → Int} (h : zA f = zA g) (hf : i32 f) (hg : i32 g) {j : Int} (j0 : 0 ≤ j) : f j = g j := by
  have e := congrFun h j.toNat
  simp only [zA, Int.toNat_of_nonneg j0] at e
  have := hf j
  have := hg j
  rwa [zi_eq (by omega)] at e
theorem twB_same (h : twB pl T vf Z ps fo td pr fr tr) {kd hg : Int → Int} (e1 : Z.2.1 0 = zA kd) (e2 : Z.2.1 1 = zA hg) : twB pl T vf (Z.1, u1 (u1 Z.2.1 0 (zA kd)) 1 (zA hg), Z.2.2.1, Z.2.2.2) ps fo td pr fr tr := by
  obtain ⟨sl, al, kd', hg', pc, fc, tc, ⟨k1, k2, k3⟩, e3, t, h4⟩ := h
  exact ⟨sl, al, kd', hg', pc, fc, tc, ⟨e1.symm.trans k1, e2.symm.trans k2, k3⟩, e3, t, h4⟩
theorem cntC_cong {P Q : Int → Prop} : ∀ n : Nat, (∀ i, 0 ≤ i → i < (n : Int) → (P i ↔ Q i)) → cntC P n = cntC Q n
  | 0, _ => rfl
  | n + 1, h => by
    rw [cntC, cntC, cntC_cong n (fun i a b => h i a (by omega))]
    congr 1
    have q := h n (by omega) (by omega)
    by_cases p : P n
    · rw [if_pos p, if_pos (q.mp p)]
    · rw [if_neg p, if_neg (fun z => p (q.mpr z))]
theorem twB_pull (h : twB pl T vf Z ps fo td pr fr tr) {s : Int} (hs : 0 ≤ s ∧ s < 100) (h1 : T s = 1) {kd hg : Int → Int} (hK : kdR T kd hg) (e1 : Z.2.1 0 = zA kd) (e2 : Z.2.1 1 = zA hg) : twB pl (putT T s 0 0) vf (Z.1, u1 (u1 Z.2.1 0 (zA (upI kd s 0))) 1 (zA (upI hg s 0)), Z.2.2.1, Z.2.2.2) ps fo td pr fr tr := by
  obtain ⟨sl, al, kd', hg', pc, fc, tc, ⟨k1, k2, k3, k4, k5, k6⟩, e3, ⟨⟨t1, t2, t3⟩, ⟨t4, t5, t6⟩, ⟨t7, t8, t9⟩, t10, t11⟩, c, sp, h6, h7⟩ := h
  have ag : agT T (putT T s 0 0) := putT_ag hs
  have a200 : putT T s 0 0 200 = T 200 := ag 200 (by omega)
  have tn := t1.2.2.2.2.1
  refine ⟨sl, al, upI kd s 0, upI hg s 0, pc, fc, tc, ⟨rfl, rfl, k3, k4, by rw [ag 424 (by omega)]; exact k5, by rw [ag 261 (by omega)]; exact k6⟩, e3, ⟨⟨putT_R t1 hs (by decide) (by decide), wkOk_ag t2 ag, fun j j0 j1 q => ?_⟩, ⟨putT_kd hK hs (by decide) (by decide), wkR2_ag t5 ag, suR_ag t6.1 ag, t6.2⟩, ⟨fun r q r0 r1 s0 s1 => ?_, fun r q r0 r1 s0 s1 => ?_, waR_ag t9 ag⟩, ?_, ?_⟩, c, ⟨sp.1, fun i i0 i1 => ?_⟩, h6, h7⟩
  · rw [putT_k hs j j1] at q
    rw [putT_h hs j j0]
    split
    · rfl
    · next z => rw [if_neg z] at q; exact t3 j j0 j1 q
  · show _ ↔ q < 100 ∧ clP (putT T s 0 0) vf 3 (r / 120) (r % 120) q (putT T s 0 0 200)
    rw [clP_ag ag]
    exact t7 r q r0 r1 s0 s1
  · show _ ↔ q < 100 ∧ clP (putT T s 0 0) vf 4 (r / 120) (r % 120) q (putT T s 0 0 200)
    rw [clP_ag ag]
    exact t8 r q r0 r1 s0 s1
  · rw [t10, a200]
    exact cntC_cong _ (fun i i0 i1 => by rw [ag _ (by omega)])
  · rw [t11, a200]
    exact cntC_cong _ (fun i i0 i1 => by rw [ag _ (by omega)])
  · have q := sp.2 i i0 i1
    refine ⟨q.1, ?_, q.2.2⟩
    rw [putT_k hs _ q.1.2]
    split
    · rfl
    · exact q.2.1
theorem sgT_put {s k h : Int} {i : Nat} (hs : 0 ≤ s ∧ s < 100) : sgT (putT T s k h) (2 + i) = sgT T (2 + i) := by
  funext j
  rw [sgT, sgT]
  by_cases q : 0 ≤ j ∧ j < 440
  · rw [if_pos q, if_pos q, putT_ag hs _ (by omega)]
  · rw [if_neg q, if_neg q]
theorem RM_put {s k h : Int} {x : XS} {M : MK} {y : YS} (hs : 0 ≤ s ∧ s < 100) (hM : RM T pl x M y) : RM (putT T s k h) pl x M y := by
  obtain ⟨h1, im, mo, e1, e2, i1, i2, h2⟩ := hM
  refine ⟨h1, im, mo, e1, e2, i1, i2, fun k' hk => ⟨(h2 k' hk).1, fun p hp => ⟨((h2 k' hk).2 p hp).1, ?_⟩⟩⟩
  obtain ⟨vf, b1, b2⟩ := ((h2 k' hk).2 p hp).2
  exact ⟨vf, by rw [sgT_put hs]; exact b1, by rw [sgT_put hs]; exact b2⟩
end TB
