/-! the law's helpers: a call that may throw, its answer laid into out[0] -/
theorem vp_in01 : vp_in 0 1 := by unfold vp_in; decide
theorem rmXX {a b ny : Nat} (h : a < b) (hn : ny ≤ 41) : RmOk (rmX a) (rmX b) ny 1 6 0 0 := ⟨rfl, rfl, h, by show 8 + (ny + 11) + 60 * a ≤ 60 * b; omega, Nat.le_refl _, Nat.le_refl _⟩
def hpO {S V : Type} (f : Nat → Int64) (up : V → Int64) (post : Option V → S → Prop) (r : Int32) (u : S × (Nat → Int64)) : Prop := (r = 0 ∧ ∃ v, post (some v) u.1 ∧ u.2 = vp_updL f 0 (up v)) ∨ (r = 1 ∧ post none u.1 ∧ u.2 = f)
theorem pm_1 {α : Type} (w : List α) (c : α) (p : List α) : ((w ++ [c]) ++ p).Perm (w ++ (c :: p)) := by rw [List.append_assoc]; exact List.Perm.refl _
theorem pm_2 {α : Type} (w : List α) (c : α) (p : List α) : (w ++ (c :: p)).Perm ([c] ++ (w ++ p)) := List.perm_middle
theorem pm_3 {α : Type} (w : List α) (c : α) (p : List α) : ([c] ++ (w ++ p)).Perm ((w ++ [c]) ++ p) := ((pm_1 w c p).trans (pm_2 w c p)).symm
theorem tcw_L_least : Cond.codeWith yL_least cL_least 9 (some .int) [(0, 18, 21, 13)] ∈ tb := tb_m (tx_6 48 rfl) rfl
theorem mth_L_least : MthW yL_least cL_least 9 (some .int) [(0, 18, 21, 13)] 8 := ⟨tst_L_least, tin_L, tcw_L_least, by decide +kernel, by decide +kernel, by decide +kernel⟩
theorem c_L_least {ka : KA} {l : Launch} {g : GG} {pl : Pool} {b o : Nat} {p1 p2 p3 p4 p5 p6 : Int32} {f : Nat → Int64} {wc : va_W} {S : Type} {post : Option Int32 → S → Prop} {Wf : S → va_W} (hM : MXi l yX11_least cX11_least 7 (rmX 7) g (FzD ka) [.ref b, .int p1, .int p2, .int p3, .int p4, .int p5, .int p6] wc ((o, aJ g 1 f) :: pl) post Wf) {fs : List Value} (hb : wc[0]? = some (b, .inr (11, fs))) : MIW l yL_least cL_least 9 (some .int) [(0, 18, 21, 13)] (rmX 8) g (FzD ka) [.ref b, .int p1, .int p2, .int p3, .int p4, .int p5, .int p6, .ref o] (wc ++ [(o, aJ g 1 f)]) pl (hpO f Int32.toInt64 post) (fun u => Wf u.1 ++ [(o, aJ g 1 u.2)]) (fun _ => pl) 1 6 := by
  refine met_W (own := RL) rfl rfl (Nat.le_of_ble_eq_true rfl) (fun X hg hl C hT hret => ?_)
  subst hg
  subst hl
  show AW X 9 0 0 (wc ++ [(o, aJ (cxG X) 1 f)]) pl 0 [some (.ref b), some (.int p1), some (.int p2), some (.int p3), some (.int p4), some (.int p5), some (.int p6), some (.ref o), none] []
  refine a_perm (pm_1 _ _ _) ?_
  refine a_aload (pc := 0) (i := 7) C dL_least_0 rfl ?_
  refine a_iconst (pc := 2) (v := 0) C dL_least_2 rfl ?_
  refine a_aload_n (pc := 3) (i := 0) C dL_least_3 rfl rfl ?_
  refine a_iload_n (pc := 4) (i := 1) C dL_least_4 rfl rfl ?_
  refine a_iload_n (pc := 5) (i := 2) C dL_least_5 rfl rfl ?_
  refine a_iload_n (pc := 6) (i := 3) C dL_least_6 rfl rfl ?_
  refine a_iload (pc := 7) (i := 4) C dL_least_7 rfl ?_
  refine a_iload (pc := 9) (i := 5) C dL_least_9 rfl ?_
  refine a_iload (pc := 11) (i := 6) C dL_least_11 rfl ?_
  refine a_tryi (pc := 13) (As := [.int p1, .int p2, .int p3, .int p4, .int p5, .int p6]) (st := [.int 0, .ref o]) C hT hM dL_least_13 mth_X11_least tml_L_7 (fun _ _ h => h) (FzD_ok ka) (rmXX (Nat.le_of_ble_eq_true rfl) (Nat.le_of_ble_eq_true rfl)) (Nat.le_of_ble_eq_true rfl) rfl rfl (ci := 11) rfl ⟨0, fs, hb⟩ rfl (by decide) (by decide) tcl_L_13 (fun _ _ h => h.2.1.1) (fun r u hp => ?_) (fun q u hp => ?_)
  · refine a_perm (pm_2 _ _ _) ?_
    refine a_i2l (pc := 16) C dL_least_16 ?_
    refine a_last (pc := 17) C dL_least_17 0 rfl vp_in01 ?_
    refine a_perm (ws' := Wf u ++ [(o, aJ (cxG X) 1 (vp_updL f 0 (r.toInt64)))]) (pm_3 _ _ _) ?_
    refine a_goto (pc := 18) (tgt := 25) C dL_least_18 rfl ?_
    refine a_iconst (pc := 25) (v := 0) C dL_least_25 rfl ?_
    exact hret 0 (u, vp_updL f 0 (r.toInt64)) _ _ (Or.inl ⟨rfl, r, hp, rfl⟩) dL_least_26
  · refine a_astore (pc := 21) (i := 8) C dL_least_21 (Nat.le_of_ble_eq_true rfl) rfl ?_
    refine a_iconst (pc := 23) (v := 1) C dL_least_23 rfl ?_
    refine a_perm (ws' := Wf u ++ [(o, aJ (cxG X) 1 f)]) (pm_1 _ _ _).symm ?_
    exact hret 1 (u, f) _ _ (Or.inr ⟨rfl, hp, rfl⟩) dL_least_24
theorem tcw_L_guessed : Cond.codeWith yL_guessed cL_guessed 11 (some .int) [(0, 21, 24, 13)] ∈ tb := tb_m (tx_6 117 rfl) rfl
theorem mth_L_guessed : MthW yL_guessed cL_guessed 11 (some .int) [(0, 21, 24, 13)] 10 := ⟨tst_L_guessed, tin_L, tcw_L_guessed, by decide +kernel, by decide +kernel, by decide +kernel⟩
theorem c_L_guessed {ka : KA} {l : Launch} {g : GG} {pl : Pool} {b o : Nat} {p1 p2 p3 p4 p5 p6 p7 p8 : Int32} {f : Nat → Int64} {wc : va_W} {S : Type} {post : Option Int64 → S → Prop} {Wf : S → va_W} (hM : MXl l yX11_guessed cX11_guessed 12 (rmX 7) g (FzD ka) [.ref b, .int p1, .int p2, .int p3, .int p4, .int p5, .int p6, .int p7, .int p8] wc ((o, aJ g 1 f) :: pl) post Wf) {fs : List Value} (hb : wc[0]? = some (b, .inr (11, fs))) : MIW l yL_guessed cL_guessed 11 (some .int) [(0, 21, 24, 13)] (rmX 8) g (FzD ka) [.ref b, .int p1, .int p2, .int p3, .int p4, .int p5, .int p6, .int p7, .int p8, .ref o] (wc ++ [(o, aJ g 1 f)]) pl (hpO f id post) (fun u => Wf u.1 ++ [(o, aJ g 1 u.2)]) (fun _ => pl) 1 6 := by
  refine met_W (own := RL) rfl rfl (Nat.le_of_ble_eq_true rfl) (fun X hg hl C hT hret => ?_)
  subst hg
  subst hl
  show AW X 11 0 0 (wc ++ [(o, aJ (cxG X) 1 f)]) pl 0 [some (.ref b), some (.int p1), some (.int p2), some (.int p3), some (.int p4), some (.int p5), some (.int p6), some (.int p7), some (.int p8), some (.ref o), none] []
  refine a_perm (pm_1 _ _ _) ?_
  refine a_aload (pc := 0) (i := 9) C dL_guessed_0 rfl ?_
  refine a_iconst (pc := 2) (v := 0) C dL_guessed_2 rfl ?_
  refine a_aload_n (pc := 3) (i := 0) C dL_guessed_3 rfl rfl ?_
  refine a_iload_n (pc := 4) (i := 1) C dL_guessed_4 rfl rfl ?_
  refine a_iload_n (pc := 5) (i := 2) C dL_guessed_5 rfl rfl ?_
  refine a_iload_n (pc := 6) (i := 3) C dL_guessed_6 rfl rfl ?_
  refine a_iload (pc := 7) (i := 4) C dL_guessed_7 rfl ?_
  refine a_iload (pc := 9) (i := 5) C dL_guessed_9 rfl ?_
  refine a_iload (pc := 11) (i := 6) C dL_guessed_11 rfl ?_
  refine a_iload (pc := 13) (i := 7) C dL_guessed_13 rfl ?_
  refine a_iload (pc := 15) (i := 8) C dL_guessed_15 rfl ?_
  refine a_tryl (pc := 17) (As := [.int p1, .int p2, .int p3, .int p4, .int p5, .int p6, .int p7, .int p8]) (st := [.int 0, .ref o]) C hT hM dL_guessed_17 mth_X11_guessed tml_L_15 (fun _ _ h => h) (FzD_ok ka) (rmXX (Nat.le_of_ble_eq_true rfl) (Nat.le_of_ble_eq_true rfl)) (Nat.le_of_ble_eq_true rfl) rfl rfl (ci := 11) rfl ⟨0, fs, hb⟩ rfl (by decide) (by decide) tcl_L_13 (fun _ _ h => h.2.1.1) (fun r u hp => ?_) (fun q u hp => ?_)
  · refine a_perm (pm_2 _ _ _) ?_
    refine a_last (pc := 20) C dL_guessed_20 0 rfl vp_in01 ?_
    refine a_perm (ws' := Wf u ++ [(o, aJ (cxG X) 1 (vp_updL f 0 (r)))]) (pm_3 _ _ _) ?_
    refine a_goto (pc := 21) (tgt := 28) C dL_guessed_21 rfl ?_
    refine a_iconst (pc := 28) (v := 0) C dL_guessed_28 rfl ?_
    exact hret 0 (u, vp_updL f 0 (r)) _ _ (Or.inl ⟨rfl, r, hp, rfl⟩) dL_guessed_29
  · refine a_astore (pc := 24) (i := 10) C dL_guessed_24 (Nat.le_of_ble_eq_true rfl) rfl ?_
    refine a_iconst (pc := 26) (v := 1) C dL_guessed_26 rfl ?_
    refine a_perm (ws' := Wf u ++ [(o, aJ (cxG X) 1 f)]) (pm_1 _ _ _).symm ?_
    exact hret 1 (u, f) _ _ (Or.inr ⟨rfl, hp, rfl⟩) dL_guessed_27
theorem tcw_L_crowd : Cond.codeWith yL_crowd cL_crowd 12 (some .int) [(0, 24, 27, 13)] ∈ tb := tb_m (tx_6 124 rfl) rfl
theorem mth_L_crowd : MthW yL_crowd cL_crowd 12 (some .int) [(0, 24, 27, 13)] 11 := ⟨tst_L_crowd, tin_L, tcw_L_crowd, by decide +kernel, by decide +kernel, by decide +kernel⟩
theorem c_L_crowd {ka : KA} {l : Launch} {g : GG} {pl : Pool} {b o : Nat} {p1 p2 p3 p4 p5 p6 p7 p8 p9 : Int32} {f : Nat → Int64} {wc : va_W} {S : Type} {post : Option Int32 → S → Prop} {Wf : S → va_W} (hM : MXi l yX11_crowd cX11_crowd 10 (rmX 7) g (FzD ka) [.ref b, .int p1, .int p2, .int p3, .int p4, .int p5, .int p6, .int p7, .int p8, .int p9] wc ((o, aJ g 1 f) :: pl) post Wf) {fs : List Value} (hb : wc[0]? = some (b, .inr (11, fs))) : MIW l yL_crowd cL_crowd 12 (some .int) [(0, 24, 27, 13)] (rmX 8) g (FzD ka) [.ref b, .int p1, .int p2, .int p3, .int p4, .int p5, .int p6, .int p7, .int p8, .int p9, .ref o] (wc ++ [(o, aJ g 1 f)]) pl (hpO f Int32.toInt64 post) (fun u => Wf u.1 ++ [(o, aJ g 1 u.2)]) (fun _ => pl) 1 6 := by
  refine met_W (own := RL) rfl rfl (Nat.le_of_ble_eq_true rfl) (fun X hg hl C hT hret => ?_)
  subst hg
  subst hl
  show AW X 12 0 0 (wc ++ [(o, aJ (cxG X) 1 f)]) pl 0 [some (.ref b), some (.int p1), some (.int p2), some (.int p3), some (.int p4), some (.int p5), some (.int p6), some (.int p7), some (.int p8), some (.int p9), some (.ref o), none] []
  refine a_perm (pm_1 _ _ _) ?_
  refine a_aload (pc := 0) (i := 10) C dL_crowd_0 rfl ?_
  refine a_iconst (pc := 2) (v := 0) C dL_crowd_2 rfl ?_
  refine a_aload_n (pc := 3) (i := 0) C dL_crowd_3 rfl rfl ?_
  refine a_iload_n (pc := 4) (i := 1) C dL_crowd_4 rfl rfl ?_
  refine a_iload_n (pc := 5) (i := 2) C dL_crowd_5 rfl rfl ?_
  refine a_iload_n (pc := 6) (i := 3) C dL_crowd_6 rfl rfl ?_
  refine a_iload (pc := 7) (i := 4) C dL_crowd_7 rfl ?_
  refine a_iload (pc := 9) (i := 5) C dL_crowd_9 rfl ?_
  refine a_iload (pc := 11) (i := 6) C dL_crowd_11 rfl ?_
  refine a_iload (pc := 13) (i := 7) C dL_crowd_13 rfl ?_
  refine a_iload (pc := 15) (i := 8) C dL_crowd_15 rfl ?_
  refine a_iload (pc := 17) (i := 9) C dL_crowd_17 rfl ?_
  refine a_tryi (pc := 19) (As := [.int p1, .int p2, .int p3, .int p4, .int p5, .int p6, .int p7, .int p8, .int p9]) (st := [.int 0, .ref o]) C hT hM dL_crowd_19 mth_X11_crowd tml_L_19 (fun _ _ h => h) (FzD_ok ka) (rmXX (Nat.le_of_ble_eq_true rfl) (Nat.le_of_ble_eq_true rfl)) (Nat.le_of_ble_eq_true rfl) rfl rfl (ci := 11) rfl ⟨0, fs, hb⟩ rfl (by decide) (by decide) tcl_L_13 (fun _ _ h => h.2.1.1) (fun r u hp => ?_) (fun q u hp => ?_)
  · refine a_perm (pm_2 _ _ _) ?_
    refine a_i2l (pc := 22) C dL_crowd_22 ?_
    refine a_last (pc := 23) C dL_crowd_23 0 rfl vp_in01 ?_
    refine a_perm (ws' := Wf u ++ [(o, aJ (cxG X) 1 (vp_updL f 0 (r.toInt64)))]) (pm_3 _ _ _) ?_
    refine a_goto (pc := 24) (tgt := 31) C dL_crowd_24 rfl ?_
    refine a_iconst (pc := 31) (v := 0) C dL_crowd_31 rfl ?_
    exact hret 0 (u, vp_updL f 0 (r.toInt64)) _ _ (Or.inl ⟨rfl, r, hp, rfl⟩) dL_crowd_32
  · refine a_astore (pc := 27) (i := 11) C dL_crowd_27 (Nat.le_of_ble_eq_true rfl) rfl ?_
    refine a_iconst (pc := 29) (v := 1) C dL_crowd_29 rfl ?_
    refine a_perm (ws' := Wf u ++ [(o, aJ (cxG X) 1 f)]) (pm_1 _ _ _).symm ?_
    exact hret 1 (u, f) _ _ (Or.inr ⟨rfl, hp, rfl⟩) dL_crowd_30
theorem tcw_L_plant : Cond.codeWith yL_plant cL_plant 10 (some .int) [(0, 20, 23, 13)] ∈ tb := tb_m (tx_6 173 rfl) rfl
theorem mth_L_plant : MthW yL_plant cL_plant 10 (some .int) [(0, 20, 23, 13)] 9 := ⟨tst_L_plant, tin_L, tcw_L_plant, by decide +kernel, by decide +kernel, by decide +kernel⟩
theorem c_L_plant {ka : KA} {l : Launch} {g : GG} {pl : Pool} {b o : Nat} {p1 p2 p3 p4 p5 p6 p7 : Int32} {f : Nat → Int64} {wc : va_W} {S : Type} {post : Option Int32 → S → Prop} {Wf : S → va_W} (hM : MXi l yX11_plant cX11_plant 8 (rmX 7) g (FzD ka) [.ref b, .int p1, .int p2, .int p3, .int p4, .int p5, .int p6, .int p7] wc ((o, aJ g 1 f) :: pl) post Wf) {fs : List Value} (hb : wc[0]? = some (b, .inr (11, fs))) : MIW l yL_plant cL_plant 10 (some .int) [(0, 20, 23, 13)] (rmX 8) g (FzD ka) [.ref b, .int p1, .int p2, .int p3, .int p4, .int p5, .int p6, .int p7, .ref o] (wc ++ [(o, aJ g 1 f)]) pl (hpO f Int32.toInt64 post) (fun u => Wf u.1 ++ [(o, aJ g 1 u.2)]) (fun _ => pl) 1 6 := by
  refine met_W (own := RL) rfl rfl (Nat.le_of_ble_eq_true rfl) (fun X hg hl C hT hret => ?_)
  subst hg
  subst hl
  show AW X 10 0 0 (wc ++ [(o, aJ (cxG X) 1 f)]) pl 0 [some (.ref b), some (.int p1), some (.int p2), some (.int p3), some (.int p4), some (.int p5), some (.int p6), some (.int p7), some (.ref o), none] []
  refine a_perm (pm_1 _ _ _) ?_
  refine a_aload (pc := 0) (i := 8) C dL_plant_0 rfl ?_
  refine a_iconst (pc := 2) (v := 0) C dL_plant_2 rfl ?_
  refine a_aload_n (pc := 3) (i := 0) C dL_plant_3 rfl rfl ?_
  refine a_iload_n (pc := 4) (i := 1) C dL_plant_4 rfl rfl ?_
  refine a_iload_n (pc := 5) (i := 2) C dL_plant_5 rfl rfl ?_
  refine a_iload_n (pc := 6) (i := 3) C dL_plant_6 rfl rfl ?_
  refine a_iload (pc := 7) (i := 4) C dL_plant_7 rfl ?_
  refine a_iload (pc := 9) (i := 5) C dL_plant_9 rfl ?_
  refine a_iload (pc := 11) (i := 6) C dL_plant_11 rfl ?_
  refine a_iload (pc := 13) (i := 7) C dL_plant_13 rfl ?_
  refine a_tryi (pc := 15) (As := [.int p1, .int p2, .int p3, .int p4, .int p5, .int p6, .int p7]) (st := [.int 0, .ref o]) C hT hM dL_plant_15 mth_X11_plant tml_L_23 (fun _ _ h => h) (FzD_ok ka) (rmXX (Nat.le_of_ble_eq_true rfl) (Nat.le_of_ble_eq_true rfl)) (Nat.le_of_ble_eq_true rfl) rfl rfl (ci := 11) rfl ⟨0, fs, hb⟩ rfl (by decide) (by decide) tcl_L_13 (fun _ _ h => h.2.1.1) (fun r u hp => ?_) (fun q u hp => ?_)
  · refine a_perm (pm_2 _ _ _) ?_
    refine a_i2l (pc := 18) C dL_plant_18 ?_
    refine a_last (pc := 19) C dL_plant_19 0 rfl vp_in01 ?_
    refine a_perm (ws' := Wf u ++ [(o, aJ (cxG X) 1 (vp_updL f 0 (r.toInt64)))]) (pm_3 _ _ _) ?_
    refine a_goto (pc := 20) (tgt := 27) C dL_plant_20 rfl ?_
    refine a_iconst (pc := 27) (v := 0) C dL_plant_27 rfl ?_
    exact hret 0 (u, vp_updL f 0 (r.toInt64)) _ _ (Or.inl ⟨rfl, r, hp, rfl⟩) dL_plant_28
  · refine a_astore (pc := 23) (i := 9) C dL_plant_23 (Nat.le_of_ble_eq_true rfl) rfl ?_
    refine a_iconst (pc := 25) (v := 1) C dL_plant_25 rfl ?_
    refine a_perm (ws' := Wf u ++ [(o, aJ (cxG X) 1 f)]) (pm_1 _ _ _).symm ?_
    exact hret 1 (u, f) _ _ (Or.inr ⟨rfl, hp, rfl⟩) dL_plant_26
theorem tcw_L_spots : Cond.codeWith yL_spots cL_spots 11 (some .int) [(0, 22, 25, 13)] ∈ tb := tb_m (tx_6 230 rfl) rfl
theorem mth_L_spots : MthW yL_spots cL_spots 11 (some .int) [(0, 22, 25, 13)] 10 := ⟨tst_L_spots, tin_L, tcw_L_spots, by decide +kernel, by decide +kernel, by decide +kernel⟩
theorem c_L_spots {ka : KA} {l : Launch} {g : GG} {pl : Pool} {b o : Nat} {p1 p2 p3 p4 p5 p6 p7 p8 : Int32} {f : Nat → Int64} {wc : va_W} {S : Type} {post : Option Int32 → S → Prop} {Wf : S → va_W} (hM : MXi l yX11_spots cX11_spots 9 (rmX 7) g (FzD ka) [.ref b, .int p1, .int p2, .int p3, .int p4, .int p5, .int p6, .int p7, .int p8] wc ((o, aJ g 1 f) :: pl) post Wf) {fs : List Value} (hb : wc[0]? = some (b, .inr (11, fs))) : MIW l yL_spots cL_spots 11 (some .int) [(0, 22, 25, 13)] (rmX 8) g (FzD ka) [.ref b, .int p1, .int p2, .int p3, .int p4, .int p5, .int p6, .int p7, .int p8, .ref o] (wc ++ [(o, aJ g 1 f)]) pl (hpO f Int32.toInt64 post) (fun u => Wf u.1 ++ [(o, aJ g 1 u.2)]) (fun _ => pl) 1 6 := by
  refine met_W (own := RL) rfl rfl (Nat.le_of_ble_eq_true rfl) (fun X hg hl C hT hret => ?_)
  subst hg
  subst hl
  show AW X 11 0 0 (wc ++ [(o, aJ (cxG X) 1 f)]) pl 0 [some (.ref b), some (.int p1), some (.int p2), some (.int p3), some (.int p4), some (.int p5), some (.int p6), some (.int p7), some (.int p8), some (.ref o), none] []
  refine a_perm (pm_1 _ _ _) ?_
  refine a_aload (pc := 0) (i := 9) C dL_spots_0 rfl ?_
  refine a_iconst (pc := 2) (v := 0) C dL_spots_2 rfl ?_
  refine a_aload_n (pc := 3) (i := 0) C dL_spots_3 rfl rfl ?_
  refine a_iload_n (pc := 4) (i := 1) C dL_spots_4 rfl rfl ?_
  refine a_iload_n (pc := 5) (i := 2) C dL_spots_5 rfl rfl ?_
  refine a_iload_n (pc := 6) (i := 3) C dL_spots_6 rfl rfl ?_
  refine a_iload (pc := 7) (i := 4) C dL_spots_7 rfl ?_
  refine a_iload (pc := 9) (i := 5) C dL_spots_9 rfl ?_
  refine a_iload (pc := 11) (i := 6) C dL_spots_11 rfl ?_
  refine a_iload (pc := 13) (i := 7) C dL_spots_13 rfl ?_
  refine a_iload (pc := 15) (i := 8) C dL_spots_15 rfl ?_
  refine a_tryi (pc := 17) (As := [.int p1, .int p2, .int p3, .int p4, .int p5, .int p6, .int p7, .int p8]) (st := [.int 0, .ref o]) C hT hM dL_spots_17 mth_X11_spots tml_L_27 (fun _ _ h => h) (FzD_ok ka) (rmXX (Nat.le_of_ble_eq_true rfl) (Nat.le_of_ble_eq_true rfl)) (Nat.le_of_ble_eq_true rfl) rfl rfl (ci := 11) rfl ⟨0, fs, hb⟩ rfl (by decide) (by decide) tcl_L_13 (fun _ _ h => h.2.1.1) (fun r u hp => ?_) (fun q u hp => ?_)
  · refine a_perm (pm_2 _ _ _) ?_
    refine a_i2l (pc := 20) C dL_spots_20 ?_
    refine a_last (pc := 21) C dL_spots_21 0 rfl vp_in01 ?_
    refine a_perm (ws' := Wf u ++ [(o, aJ (cxG X) 1 (vp_updL f 0 (r.toInt64)))]) (pm_3 _ _ _) ?_
    refine a_goto (pc := 22) (tgt := 29) C dL_spots_22 rfl ?_
    refine a_iconst (pc := 29) (v := 0) C dL_spots_29 rfl ?_
    exact hret 0 (u, vp_updL f 0 (r.toInt64)) _ _ (Or.inl ⟨rfl, r, hp, rfl⟩) dL_spots_30
  · refine a_astore (pc := 25) (i := 10) C dL_spots_25 (Nat.le_of_ble_eq_true rfl) rfl ?_
    refine a_iconst (pc := 27) (v := 1) C dL_spots_27 rfl ?_
    refine a_perm (ws' := Wf u ++ [(o, aJ (cxG X) 1 f)]) (pm_1 _ _ _).symm ?_
    exact hret 1 (u, f) _ _ (Or.inr ⟨rfl, hp, rfl⟩) dL_spots_28
theorem tcw_L_judged : Cond.codeWith yL_judged cL_judged 8 (some .int) [(0, 16, 19, 13)] ∈ tb := tb_m (tx_7 12 rfl) rfl
theorem mth_L_judged : MthW yL_judged cL_judged 8 (some .int) [(0, 16, 19, 13)] 7 := ⟨tst_L_judged, tin_L, tcw_L_judged, by decide +kernel, by decide +kernel, by decide +kernel⟩
theorem c_L_judged {ka : KA} {l : Launch} {g : GG} {pl : Pool} {b o : Nat} {p1 p2 p3 p4 p5 : Int32} {f : Nat → Int64} {wc : va_W} {S : Type} {post : Option Int32 → S → Prop} {Wf : S → va_W} (hM : MXi l yX11_judged cX11_judged 8 (rmX 7) g (FzD ka) [.ref b, .int p1, .int p2, .int p3, .int p4, .int p5] wc ((o, aJ g 1 f) :: pl) post Wf) {fs : List Value} (hb : wc[0]? = some (b, .inr (11, fs))) : MIW l yL_judged cL_judged 8 (some .int) [(0, 16, 19, 13)] (rmX 8) g (FzD ka) [.ref b, .int p1, .int p2, .int p3, .int p4, .int p5, .ref o] (wc ++ [(o, aJ g 1 f)]) pl (hpO f Int32.toInt64 post) (fun u => Wf u.1 ++ [(o, aJ g 1 u.2)]) (fun _ => pl) 1 6 := by
  refine met_W (own := RL) rfl rfl (Nat.le_of_ble_eq_true rfl) (fun X hg hl C hT hret => ?_)
  subst hg
  subst hl
  show AW X 8 0 0 (wc ++ [(o, aJ (cxG X) 1 f)]) pl 0 [some (.ref b), some (.int p1), some (.int p2), some (.int p3), some (.int p4), some (.int p5), some (.ref o), none] []
  refine a_perm (pm_1 _ _ _) ?_
  refine a_aload (pc := 0) (i := 6) C dL_judged_0 rfl ?_
  refine a_iconst (pc := 2) (v := 0) C dL_judged_2 rfl ?_
  refine a_aload_n (pc := 3) (i := 0) C dL_judged_3 rfl rfl ?_
  refine a_iload_n (pc := 4) (i := 1) C dL_judged_4 rfl rfl ?_
  refine a_iload_n (pc := 5) (i := 2) C dL_judged_5 rfl rfl ?_
  refine a_iload_n (pc := 6) (i := 3) C dL_judged_6 rfl rfl ?_
  refine a_iload (pc := 7) (i := 4) C dL_judged_7 rfl ?_
  refine a_iload (pc := 9) (i := 5) C dL_judged_9 rfl ?_
  refine a_tryi (pc := 11) (As := [.int p1, .int p2, .int p3, .int p4, .int p5]) (st := [.int 0, .ref o]) C hT hM dL_judged_11 mth_X11_judged tml_L_31 (fun _ _ h => h) (FzD_ok ka) (rmXX (Nat.le_of_ble_eq_true rfl) (Nat.le_of_ble_eq_true rfl)) (Nat.le_of_ble_eq_true rfl) rfl rfl (ci := 11) rfl ⟨0, fs, hb⟩ rfl (by decide) (by decide) tcl_L_13 (fun _ _ h => h.2.1.1) (fun r u hp => ?_) (fun q u hp => ?_)
  · refine a_perm (pm_2 _ _ _) ?_
    refine a_i2l (pc := 14) C dL_judged_14 ?_
    refine a_last (pc := 15) C dL_judged_15 0 rfl vp_in01 ?_
    refine a_perm (ws' := Wf u ++ [(o, aJ (cxG X) 1 (vp_updL f 0 (r.toInt64)))]) (pm_3 _ _ _) ?_
    refine a_goto (pc := 16) (tgt := 23) C dL_judged_16 rfl ?_
    refine a_iconst (pc := 23) (v := 0) C dL_judged_23 rfl ?_
    exact hret 0 (u, vp_updL f 0 (r.toInt64)) _ _ (Or.inl ⟨rfl, r, hp, rfl⟩) dL_judged_24
  · refine a_astore (pc := 19) (i := 7) C dL_judged_19 (Nat.le_of_ble_eq_true rfl) rfl ?_
    refine a_iconst (pc := 21) (v := 1) C dL_judged_21 rfl ?_
    refine a_perm (ws' := Wf u ++ [(o, aJ (cxG X) 1 f)]) (pm_1 _ _ _).symm ?_
    exact hret 1 (u, f) _ _ (Or.inr ⟨rfl, hp, rfl⟩) dL_judged_22
theorem tcw_L_rests : Cond.codeWith yL_rests cL_rests 9 (some .int) [(0, 18, 21, 13)] ∈ tb := tb_m (tx_7 38 rfl) rfl
theorem mth_L_rests : MthW yL_rests cL_rests 9 (some .int) [(0, 18, 21, 13)] 8 := ⟨tst_L_rests, tin_L, tcw_L_rests, by decide +kernel, by decide +kernel, by decide +kernel⟩
theorem c_L_rests {ka : KA} {l : Launch} {g : GG} {pl : Pool} {b o : Nat} {p1 p2 p3 p4 p5 p6 : Int32} {f : Nat → Int64} {wc : va_W} {S : Type} {post : Option Int32 → S → Prop} {Wf : S → va_W} (hM : MXi l yX11_rests cX11_rests 9 (rmX 7) g (FzD ka) [.ref b, .int p1, .int p2, .int p3, .int p4, .int p5, .int p6] wc ((o, aJ g 1 f) :: pl) post Wf) {fs : List Value} (hb : wc[0]? = some (b, .inr (11, fs))) : MIW l yL_rests cL_rests 9 (some .int) [(0, 18, 21, 13)] (rmX 8) g (FzD ka) [.ref b, .int p1, .int p2, .int p3, .int p4, .int p5, .int p6, .ref o] (wc ++ [(o, aJ g 1 f)]) pl (hpO f Int32.toInt64 post) (fun u => Wf u.1 ++ [(o, aJ g 1 u.2)]) (fun _ => pl) 1 6 := by
  refine met_W (own := RL) rfl rfl (Nat.le_of_ble_eq_true rfl) (fun X hg hl C hT hret => ?_)
  subst hg
  subst hl
  show AW X 9 0 0 (wc ++ [(o, aJ (cxG X) 1 f)]) pl 0 [some (.ref b), some (.int p1), some (.int p2), some (.int p3), some (.int p4), some (.int p5), some (.int p6), some (.ref o), none] []
  refine a_perm (pm_1 _ _ _) ?_
  refine a_aload (pc := 0) (i := 7) C dL_rests_0 rfl ?_
  refine a_iconst (pc := 2) (v := 0) C dL_rests_2 rfl ?_
  refine a_aload_n (pc := 3) (i := 0) C dL_rests_3 rfl rfl ?_
  refine a_iload_n (pc := 4) (i := 1) C dL_rests_4 rfl rfl ?_
  refine a_iload_n (pc := 5) (i := 2) C dL_rests_5 rfl rfl ?_
  refine a_iload_n (pc := 6) (i := 3) C dL_rests_6 rfl rfl ?_
  refine a_iload (pc := 7) (i := 4) C dL_rests_7 rfl ?_
  refine a_iload (pc := 9) (i := 5) C dL_rests_9 rfl ?_
  refine a_iload (pc := 11) (i := 6) C dL_rests_11 rfl ?_
  refine a_tryi (pc := 13) (As := [.int p1, .int p2, .int p3, .int p4, .int p5, .int p6]) (st := [.int 0, .ref o]) C hT hM dL_rests_13 mth_X11_rests tml_L_35 (fun _ _ h => h) (FzD_ok ka) (rmXX (Nat.le_of_ble_eq_true rfl) (Nat.le_of_ble_eq_true rfl)) (Nat.le_of_ble_eq_true rfl) rfl rfl (ci := 11) rfl ⟨0, fs, hb⟩ rfl (by decide) (by decide) tcl_L_13 (fun _ _ h => h.2.1.1) (fun r u hp => ?_) (fun q u hp => ?_)
  · refine a_perm (pm_2 _ _ _) ?_
    refine a_i2l (pc := 16) C dL_rests_16 ?_
    refine a_last (pc := 17) C dL_rests_17 0 rfl vp_in01 ?_
    refine a_perm (ws' := Wf u ++ [(o, aJ (cxG X) 1 (vp_updL f 0 (r.toInt64)))]) (pm_3 _ _ _) ?_
    refine a_goto (pc := 18) (tgt := 25) C dL_rests_18 rfl ?_
    refine a_iconst (pc := 25) (v := 0) C dL_rests_25 rfl ?_
    exact hret 0 (u, vp_updL f 0 (r.toInt64)) _ _ (Or.inl ⟨rfl, r, hp, rfl⟩) dL_rests_26
  · refine a_astore (pc := 21) (i := 8) C dL_rests_21 (Nat.le_of_ble_eq_true rfl) rfl ?_
    refine a_iconst (pc := 23) (v := 1) C dL_rests_23 rfl ?_
    refine a_perm (ws' := Wf u ++ [(o, aJ (cxG X) 1 f)]) (pm_1 _ _ _).symm ?_
    exact hret 1 (u, f) _ _ (Or.inr ⟨rfl, hp, rfl⟩) dL_rests_24
theorem tcw_L_errand : Cond.codeWith yL_errand cL_errand 10 (some .int) [(0, 20, 23, 13)] ∈ tb := tb_m (tx_7 61 rfl) rfl
theorem mth_L_errand : MthW yL_errand cL_errand 10 (some .int) [(0, 20, 23, 13)] 9 := ⟨tst_L_errand, tin_L, tcw_L_errand, by decide +kernel, by decide +kernel, by decide +kernel⟩
theorem c_L_errand {ka : KA} {l : Launch} {g : GG} {pl : Pool} {b o : Nat} {p1 p2 p3 p4 p5 p6 p7 : Int32} {f : Nat → Int64} {wc : va_W} {S : Type} {post : Option Int32 → S → Prop} {Wf : S → va_W} (hM : MXi l yX11_errand cX11_errand 12 (rmX 7) g (FzD ka) [.ref b, .int p1, .int p2, .int p3, .int p4, .int p5, .int p6, .int p7] wc ((o, aJ g 1 f) :: pl) post Wf) {fs : List Value} (hb : wc[0]? = some (b, .inr (11, fs))) : MIW l yL_errand cL_errand 10 (some .int) [(0, 20, 23, 13)] (rmX 8) g (FzD ka) [.ref b, .int p1, .int p2, .int p3, .int p4, .int p5, .int p6, .int p7, .ref o] (wc ++ [(o, aJ g 1 f)]) pl (hpO f Int32.toInt64 post) (fun u => Wf u.1 ++ [(o, aJ g 1 u.2)]) (fun _ => pl) 1 6 := by
  refine met_W (own := RL) rfl rfl (Nat.le_of_ble_eq_true rfl) (fun X hg hl C hT hret => ?_)
  subst hg
  subst hl
  show AW X 10 0 0 (wc ++ [(o, aJ (cxG X) 1 f)]) pl 0 [some (.ref b), some (.int p1), some (.int p2), some (.int p3), some (.int p4), some (.int p5), some (.int p6), some (.int p7), some (.ref o), none] []
  refine a_perm (pm_1 _ _ _) ?_
  refine a_aload (pc := 0) (i := 8) C dL_errand_0 rfl ?_
  refine a_iconst (pc := 2) (v := 0) C dL_errand_2 rfl ?_
  refine a_aload_n (pc := 3) (i := 0) C dL_errand_3 rfl rfl ?_
  refine a_iload_n (pc := 4) (i := 1) C dL_errand_4 rfl rfl ?_
  refine a_iload_n (pc := 5) (i := 2) C dL_errand_5 rfl rfl ?_
  refine a_iload_n (pc := 6) (i := 3) C dL_errand_6 rfl rfl ?_
  refine a_iload (pc := 7) (i := 4) C dL_errand_7 rfl ?_
  refine a_iload (pc := 9) (i := 5) C dL_errand_9 rfl ?_
  refine a_iload (pc := 11) (i := 6) C dL_errand_11 rfl ?_
  refine a_iload (pc := 13) (i := 7) C dL_errand_13 rfl ?_
  refine a_tryi (pc := 15) (As := [.int p1, .int p2, .int p3, .int p4, .int p5, .int p6, .int p7]) (st := [.int 0, .ref o]) C hT hM dL_errand_15 mth_X11_errand tml_L_38 (fun _ _ h => h) (FzD_ok ka) (rmXX (Nat.le_of_ble_eq_true rfl) (Nat.le_of_ble_eq_true rfl)) (Nat.le_of_ble_eq_true rfl) rfl rfl (ci := 11) rfl ⟨0, fs, hb⟩ rfl (by decide) (by decide) tcl_L_13 (fun _ _ h => h.2.1.1) (fun r u hp => ?_) (fun q u hp => ?_)
  · refine a_perm (pm_2 _ _ _) ?_
    refine a_i2l (pc := 18) C dL_errand_18 ?_
    refine a_last (pc := 19) C dL_errand_19 0 rfl vp_in01 ?_
    refine a_perm (ws' := Wf u ++ [(o, aJ (cxG X) 1 (vp_updL f 0 (r.toInt64)))]) (pm_3 _ _ _) ?_
    refine a_goto (pc := 20) (tgt := 27) C dL_errand_20 rfl ?_
    refine a_iconst (pc := 27) (v := 0) C dL_errand_27 rfl ?_
    exact hret 0 (u, vp_updL f 0 (r.toInt64)) _ _ (Or.inl ⟨rfl, r, hp, rfl⟩) dL_errand_28
  · refine a_astore (pc := 23) (i := 9) C dL_errand_23 (Nat.le_of_ble_eq_true rfl) rfl ?_
    refine a_iconst (pc := 25) (v := 1) C dL_errand_25 rfl ?_
    refine a_perm (ws' := Wf u ++ [(o, aJ (cxG X) 1 f)]) (pm_1 _ _ _).symm ?_
    exact hret 1 (u, f) _ _ (Or.inr ⟨rfl, hp, rfl⟩) dL_errand_26
theorem tcw_L_meet : Cond.codeWith yL_meet cL_meet 10 (some .int) [(0, 20, 23, 13)] ∈ tb := tb_m (tx_7 73 rfl) rfl
theorem mth_L_meet : MthW yL_meet cL_meet 10 (some .int) [(0, 20, 23, 13)] 9 := ⟨tst_L_meet, tin_L, tcw_L_meet, by decide +kernel, by decide +kernel, by decide +kernel⟩
theorem c_L_meet {ka : KA} {l : Launch} {g : GG} {pl : Pool} {b o : Nat} {p1 p2 p3 p4 p5 p6 p7 : Int32} {f : Nat → Int64} {wc : va_W} {S : Type} {post : Option Int32 → S → Prop} {Wf : S → va_W} (hM : MXi l yX11_meet cX11_meet 12 (rmX 7) g (FzD ka) [.ref b, .int p1, .int p2, .int p3, .int p4, .int p5, .int p6, .int p7] wc ((o, aJ g 1 f) :: pl) post Wf) {fs : List Value} (hb : wc[0]? = some (b, .inr (11, fs))) : MIW l yL_meet cL_meet 10 (some .int) [(0, 20, 23, 13)] (rmX 8) g (FzD ka) [.ref b, .int p1, .int p2, .int p3, .int p4, .int p5, .int p6, .int p7, .ref o] (wc ++ [(o, aJ g 1 f)]) pl (hpO f Int32.toInt64 post) (fun u => Wf u.1 ++ [(o, aJ g 1 u.2)]) (fun _ => pl) 1 6 := by
  refine met_W (own := RL) rfl rfl (Nat.le_of_ble_eq_true rfl) (fun X hg hl C hT hret => ?_)
  subst hg
  subst hl
  show AW X 10 0 0 (wc ++ [(o, aJ (cxG X) 1 f)]) pl 0 [some (.ref b), some (.int p1), some (.int p2), some (.int p3), some (.int p4), some (.int p5), some (.int p6), some (.int p7), some (.ref o), none] []
  refine a_perm (pm_1 _ _ _) ?_
  refine a_aload (pc := 0) (i := 8) C dL_meet_0 rfl ?_
  refine a_iconst (pc := 2) (v := 0) C dL_meet_2 rfl ?_
  refine a_aload_n (pc := 3) (i := 0) C dL_meet_3 rfl rfl ?_
  refine a_iload_n (pc := 4) (i := 1) C dL_meet_4 rfl rfl ?_
  refine a_iload_n (pc := 5) (i := 2) C dL_meet_5 rfl rfl ?_
  refine a_iload_n (pc := 6) (i := 3) C dL_meet_6 rfl rfl ?_
  refine a_iload (pc := 7) (i := 4) C dL_meet_7 rfl ?_
  refine a_iload (pc := 9) (i := 5) C dL_meet_9 rfl ?_
  refine a_iload (pc := 11) (i := 6) C dL_meet_11 rfl ?_
  refine a_iload (pc := 13) (i := 7) C dL_meet_13 rfl ?_
  refine a_tryi (pc := 15) (As := [.int p1, .int p2, .int p3, .int p4, .int p5, .int p6, .int p7]) (st := [.int 0, .ref o]) C hT hM dL_meet_15 mth_X11_meet tml_L_41 (fun _ _ h => h) (FzD_ok ka) (rmXX (Nat.le_of_ble_eq_true rfl) (Nat.le_of_ble_eq_true rfl)) (Nat.le_of_ble_eq_true rfl) rfl rfl (ci := 11) rfl ⟨0, fs, hb⟩ rfl (by decide) (by decide) tcl_L_13 (fun _ _ h => h.2.1.1) (fun r u hp => ?_) (fun q u hp => ?_)
  · refine a_perm (pm_2 _ _ _) ?_
    refine a_i2l (pc := 18) C dL_meet_18 ?_
    refine a_last (pc := 19) C dL_meet_19 0 rfl vp_in01 ?_
    refine a_perm (ws' := Wf u ++ [(o, aJ (cxG X) 1 (vp_updL f 0 (r.toInt64)))]) (pm_3 _ _ _) ?_
    refine a_goto (pc := 20) (tgt := 27) C dL_meet_20 rfl ?_
    refine a_iconst (pc := 27) (v := 0) C dL_meet_27 rfl ?_
    exact hret 0 (u, vp_updL f 0 (r.toInt64)) _ _ (Or.inl ⟨rfl, r, hp, rfl⟩) dL_meet_28
  · refine a_astore (pc := 23) (i := 9) C dL_meet_23 (Nat.le_of_ble_eq_true rfl) rfl ?_
    refine a_iconst (pc := 25) (v := 1) C dL_meet_25 rfl ?_
    refine a_perm (ws' := Wf u ++ [(o, aJ (cxG X) 1 f)]) (pm_1 _ _ _).symm ?_
    exact hret 1 (u, f) _ _ (Or.inr ⟨rfl, hp, rfl⟩) dL_meet_26
theorem tcw_L_cover : Cond.codeWith yL_cover cL_cover 9 (some .int) [(0, 18, 21, 13)] ∈ tb := tb_m (tx_7 81 rfl) rfl
theorem mth_L_cover : MthW yL_cover cL_cover 9 (some .int) [(0, 18, 21, 13)] 8 := ⟨tst_L_cover, tin_L, tcw_L_cover, by decide +kernel, by decide +kernel, by decide +kernel⟩
theorem c_L_cover {ka : KA} {l : Launch} {g : GG} {pl : Pool} {b o : Nat} {p1 p2 p3 p4 p5 p6 : Int32} {f : Nat → Int64} {wc : va_W} {S : Type} {post : Option Int32 → S → Prop} {Wf : S → va_W} (hM : MXi l yX11_cover cX11_cover 7 (rmX 7) g (FzD ka) [.ref b, .int p1, .int p2, .int p3, .int p4, .int p5, .int p6] wc ((o, aJ g 1 f) :: pl) post Wf) {fs : List Value} (hb : wc[0]? = some (b, .inr (11, fs))) : MIW l yL_cover cL_cover 9 (some .int) [(0, 18, 21, 13)] (rmX 8) g (FzD ka) [.ref b, .int p1, .int p2, .int p3, .int p4, .int p5, .int p6, .ref o] (wc ++ [(o, aJ g 1 f)]) pl (hpO f Int32.toInt64 post) (fun u => Wf u.1 ++ [(o, aJ g 1 u.2)]) (fun _ => pl) 1 6 := by
  refine met_W (own := RL) rfl rfl (Nat.le_of_ble_eq_true rfl) (fun X hg hl C hT hret => ?_)
  subst hg
  subst hl
  show AW X 9 0 0 (wc ++ [(o, aJ (cxG X) 1 f)]) pl 0 [some (.ref b), some (.int p1), some (.int p2), some (.int p3), some (.int p4), some (.int p5), some (.int p6), some (.ref o), none] []
  refine a_perm (pm_1 _ _ _) ?_
  refine a_aload (pc := 0) (i := 7) C dL_cover_0 rfl ?_
  refine a_iconst (pc := 2) (v := 0) C dL_cover_2 rfl ?_
  refine a_aload_n (pc := 3) (i := 0) C dL_cover_3 rfl rfl ?_
  refine a_iload_n (pc := 4) (i := 1) C dL_cover_4 rfl rfl ?_
  refine a_iload_n (pc := 5) (i := 2) C dL_cover_5 rfl rfl ?_
  refine a_iload_n (pc := 6) (i := 3) C dL_cover_6 rfl rfl ?_
  refine a_iload (pc := 7) (i := 4) C dL_cover_7 rfl ?_
  refine a_iload (pc := 9) (i := 5) C dL_cover_9 rfl ?_
  refine a_iload (pc := 11) (i := 6) C dL_cover_11 rfl ?_
  refine a_tryi (pc := 13) (As := [.int p1, .int p2, .int p3, .int p4, .int p5, .int p6]) (st := [.int 0, .ref o]) C hT hM dL_cover_13 mth_X11_cover tml_L_44 (fun _ _ h => h) (FzD_ok ka) (rmXX (Nat.le_of_ble_eq_true rfl) (Nat.le_of_ble_eq_true rfl)) (Nat.le_of_ble_eq_true rfl) rfl rfl (ci := 11) rfl ⟨0, fs, hb⟩ rfl (by decide) (by decide) tcl_L_13 (fun _ _ h => h.2.1.1) (fun r u hp => ?_) (fun q u hp => ?_)
  · refine a_perm (pm_2 _ _ _) ?_
    refine a_i2l (pc := 16) C dL_cover_16 ?_
    refine a_last (pc := 17) C dL_cover_17 0 rfl vp_in01 ?_
    refine a_perm (ws' := Wf u ++ [(o, aJ (cxG X) 1 (vp_updL f 0 (r.toInt64)))]) (pm_3 _ _ _) ?_
    refine a_goto (pc := 18) (tgt := 25) C dL_cover_18 rfl ?_
    refine a_iconst (pc := 25) (v := 0) C dL_cover_25 rfl ?_
    exact hret 0 (u, vp_updL f 0 (r.toInt64)) _ _ (Or.inl ⟨rfl, r, hp, rfl⟩) dL_cover_26
  · refine a_astore (pc := 21) (i := 8) C dL_cover_21 (Nat.le_of_ble_eq_true rfl) rfl ?_
    refine a_iconst (pc := 23) (v := 1) C dL_cover_23 rfl ?_
    refine a_perm (ws' := Wf u ++ [(o, aJ (cxG X) 1 f)]) (pm_1 _ _ _).symm ?_
    exact hret 1 (u, f) _ _ (Or.inr ⟨rfl, hp, rfl⟩) dL_cover_24
theorem tcw_L_keeps : Cond.codeWith yL_keeps cL_keeps 9 (some .int) [(0, 18, 21, 13)] ∈ tb := tb_m (tx_7 92 rfl) rfl
theorem mth_L_keeps : MthW yL_keeps cL_keeps 9 (some .int) [(0, 18, 21, 13)] 8 := ⟨tst_L_keeps, tin_L, tcw_L_keeps, by decide +kernel, by decide +kernel, by decide +kernel⟩
theorem c_L_keeps {ka : KA} {l : Launch} {g : GG} {pl : Pool} {b o : Nat} {p1 p2 p3 p4 p5 p6 : Int32} {f : Nat → Int64} {wc : va_W} {S : Type} {post : Option Int32 → S → Prop} {Wf : S → va_W} (hM : MXi l yX11_keeps cX11_keeps 10 (rmX 7) g (FzD ka) [.ref b, .int p1, .int p2, .int p3, .int p4, .int p5, .int p6] wc ((o, aJ g 1 f) :: pl) post Wf) {fs : List Value} (hb : wc[0]? = some (b, .inr (11, fs))) : MIW l yL_keeps cL_keeps 9 (some .int) [(0, 18, 21, 13)] (rmX 8) g (FzD ka) [.ref b, .int p1, .int p2, .int p3, .int p4, .int p5, .int p6, .ref o] (wc ++ [(o, aJ g 1 f)]) pl (hpO f Int32.toInt64 post) (fun u => Wf u.1 ++ [(o, aJ g 1 u.2)]) (fun _ => pl) 1 6 := by
  refine met_W (own := RL) rfl rfl (Nat.le_of_ble_eq_true rfl) (fun X hg hl C hT hret => ?_)
  subst hg
  subst hl
  show AW X 9 0 0 (wc ++ [(o, aJ (cxG X) 1 f)]) pl 0 [some (.ref b), some (.int p1), some (.int p2), some (.int p3), some (.int p4), some (.int p5), some (.int p6), some (.ref o), none] []
  refine a_perm (pm_1 _ _ _) ?_
  refine a_aload (pc := 0) (i := 7) C dL_keeps_0 rfl ?_
  refine a_iconst (pc := 2) (v := 0) C dL_keeps_2 rfl ?_
  refine a_aload_n (pc := 3) (i := 0) C dL_keeps_3 rfl rfl ?_
  refine a_iload_n (pc := 4) (i := 1) C dL_keeps_4 rfl rfl ?_
  refine a_iload_n (pc := 5) (i := 2) C dL_keeps_5 rfl rfl ?_
  refine a_iload_n (pc := 6) (i := 3) C dL_keeps_6 rfl rfl ?_
  refine a_iload (pc := 7) (i := 4) C dL_keeps_7 rfl ?_
  refine a_iload (pc := 9) (i := 5) C dL_keeps_9 rfl ?_
  refine a_iload (pc := 11) (i := 6) C dL_keeps_11 rfl ?_
  refine a_tryi (pc := 13) (As := [.int p1, .int p2, .int p3, .int p4, .int p5, .int p6]) (st := [.int 0, .ref o]) C hT hM dL_keeps_13 mth_X11_keeps tml_L_47 (fun _ _ h => h) (FzD_ok ka) (rmXX (Nat.le_of_ble_eq_true rfl) (Nat.le_of_ble_eq_true rfl)) (Nat.le_of_ble_eq_true rfl) rfl rfl (ci := 11) rfl ⟨0, fs, hb⟩ rfl (by decide) (by decide) tcl_L_13 (fun _ _ h => h.2.1.1) (fun r u hp => ?_) (fun q u hp => ?_)
  · refine a_perm (pm_2 _ _ _) ?_
    refine a_i2l (pc := 16) C dL_keeps_16 ?_
    refine a_last (pc := 17) C dL_keeps_17 0 rfl vp_in01 ?_
    refine a_perm (ws' := Wf u ++ [(o, aJ (cxG X) 1 (vp_updL f 0 (r.toInt64)))]) (pm_3 _ _ _) ?_
    refine a_goto (pc := 18) (tgt := 25) C dL_keeps_18 rfl ?_
    refine a_iconst (pc := 25) (v := 0) C dL_keeps_25 rfl ?_
    exact hret 0 (u, vp_updL f 0 (r.toInt64)) _ _ (Or.inl ⟨rfl, r, hp, rfl⟩) dL_keeps_26
  · refine a_astore (pc := 21) (i := 8) C dL_keeps_21 (Nat.le_of_ble_eq_true rfl) rfl ?_
    refine a_iconst (pc := 23) (v := 1) C dL_keeps_23 rfl ?_
    refine a_perm (ws' := Wf u ++ [(o, aJ (cxG X) 1 f)]) (pm_1 _ _ _).symm ?_
    exact hret 1 (u, f) _ _ (Or.inr ⟨rfl, hp, rfl⟩) dL_keeps_24
theorem tcw_L_price : Cond.codeWith yL_price cL_price 11 (some .int) [(0, 22, 25, 13)] ∈ tb := tb_m (tx_7 99 rfl) rfl
theorem mth_L_price : MthW yL_price cL_price 11 (some .int) [(0, 22, 25, 13)] 10 := ⟨tst_L_price, tin_L, tcw_L_price, by decide +kernel, by decide +kernel, by decide +kernel⟩
theorem c_L_price {ka : KA} {l : Launch} {g : GG} {pl : Pool} {b o : Nat} {p1 p2 p3 p4 p5 p6 p7 p8 : Int32} {f : Nat → Int64} {wc : va_W} {S : Type} {post : Option Int32 → S → Prop} {Wf : S → va_W} (hM : MXi l yX11_price cX11_price 9 (rmX 7) g (FzD ka) [.ref b, .int p1, .int p2, .int p3, .int p4, .int p5, .int p6, .int p7, .int p8] wc ((o, aJ g 1 f) :: pl) post Wf) {fs : List Value} (hb : wc[0]? = some (b, .inr (11, fs))) : MIW l yL_price cL_price 11 (some .int) [(0, 22, 25, 13)] (rmX 8) g (FzD ka) [.ref b, .int p1, .int p2, .int p3, .int p4, .int p5, .int p6, .int p7, .int p8, .ref o] (wc ++ [(o, aJ g 1 f)]) pl (hpO f Int32.toInt64 post) (fun u => Wf u.1 ++ [(o, aJ g 1 u.2)]) (fun _ => pl) 1 6 := by
  refine met_W (own := RL) rfl rfl (Nat.le_of_ble_eq_true rfl) (fun X hg hl C hT hret => ?_)
  subst hg
  subst hl
  show AW X 11 0 0 (wc ++ [(o, aJ (cxG X) 1 f)]) pl 0 [some (.ref b), some (.int p1), some (.int p2), some (.int p3), some (.int p4), some (.int p5), some (.int p6), some (.int p7), some (.int p8), some (.ref o), none] []
  refine a_perm (pm_1 _ _ _) ?_
  refine a_aload (pc := 0) (i := 9) C dL_price_0 rfl ?_
  refine a_iconst (pc := 2) (v := 0) C dL_price_2 rfl ?_
  refine a_aload_n (pc := 3) (i := 0) C dL_price_3 rfl rfl ?_
  refine a_iload_n (pc := 4) (i := 1) C dL_price_4 rfl rfl ?_
  refine a_iload_n (pc := 5) (i := 2) C dL_price_5 rfl rfl ?_
  refine a_iload_n (pc := 6) (i := 3) C dL_price_6 rfl rfl ?_
  refine a_iload (pc := 7) (i := 4) C dL_price_7 rfl ?_
  refine a_iload (pc := 9) (i := 5) C dL_price_9 rfl ?_
  refine a_iload (pc := 11) (i := 6) C dL_price_11 rfl ?_
  refine a_iload (pc := 13) (i := 7) C dL_price_13 rfl ?_
  refine a_iload (pc := 15) (i := 8) C dL_price_15 rfl ?_
  refine a_tryi (pc := 17) (As := [.int p1, .int p2, .int p3, .int p4, .int p5, .int p6, .int p7, .int p8]) (st := [.int 0, .ref o]) C hT hM dL_price_17 mth_X11_price tml_L_50 (fun _ _ h => h) (FzD_ok ka) (rmXX (Nat.le_of_ble_eq_true rfl) (Nat.le_of_ble_eq_true rfl)) (Nat.le_of_ble_eq_true rfl) rfl rfl (ci := 11) rfl ⟨0, fs, hb⟩ rfl (by decide) (by decide) tcl_L_13 (fun _ _ h => h.2.1.1) (fun r u hp => ?_) (fun q u hp => ?_)
  · refine a_perm (pm_2 _ _ _) ?_
    refine a_i2l (pc := 20) C dL_price_20 ?_
    refine a_last (pc := 21) C dL_price_21 0 rfl vp_in01 ?_
    refine a_perm (ws' := Wf u ++ [(o, aJ (cxG X) 1 (vp_updL f 0 (r.toInt64)))]) (pm_3 _ _ _) ?_
    refine a_goto (pc := 22) (tgt := 29) C dL_price_22 rfl ?_
    refine a_iconst (pc := 29) (v := 0) C dL_price_29 rfl ?_
    exact hret 0 (u, vp_updL f 0 (r.toInt64)) _ _ (Or.inl ⟨rfl, r, hp, rfl⟩) dL_price_30
  · refine a_astore (pc := 25) (i := 10) C dL_price_25 (Nat.le_of_ble_eq_true rfl) rfl ?_
    refine a_iconst (pc := 27) (v := 1) C dL_price_27 rfl ?_
    refine a_perm (ws' := Wf u ++ [(o, aJ (cxG X) 1 f)]) (pm_1 _ _ _).symm ?_
    exact hret 1 (u, f) _ _ (Or.inr ⟨rfl, hp, rfl⟩) dL_price_28
