/-! the reference's tokens, whole -/
section CT2
variable {tp : Int → Int} {tz : Int}
def flR (tp : Int → Int) (tz : Int) (m : Nat) (so va pc : Int → Int) : Prop := ∀ i : Nat, i < m → rTok (tK tp tz i) (tV tp tz i) (so i) (va i) ∧ pc i = pos tp tz i
theorem flR_add {m : Nat} {so va pc : Int → Int} {s v p : Int} (hf : flR tp tz m so va pc) (e : rTok (tK tp tz m) (tV tp tz m) s v) (ep : p = pos tp tz m) : flR tp tz (m + 1) (upI so m s) (upI va m v) (upI pc m p) := by
  intro i hi
  by_cases q : i = m
  · subst q
    rw [upI_s, upI_s, upI_s]; exact ⟨e, ep⟩
  · rw [upI_n (by omega), upI_n (by omega), upI_n (by omega)]
    exact hf i (by omega)
theorem p_isLtR {c : Int} (hc : -2147483648 ≤ c ∧ c < 2147483648) {post : Int32 → Prop} (h1 : lB c = true → post 1) (h0 : ¬ lB c = true → post 0) : wp_X12_isLetter (zi c) post := by
  rw [lB_t] at h1 h0
  simp (disch := omega) only [wp_X12_isLetter, zi_lit, zi_lt]
  exact ⟨fun z => h0 (by omega), fun z => ⟨fun y => h0 (by omega), fun y => h1 (by omega)⟩⟩
theorem p_isDgR {c : Int} (hc : -2147483648 ≤ c ∧ c < 2147483648) {post : Int32 → Prop} (h1 : dgB c = true → post 1) (h0 : ¬ dgB c = true → post 0) : wp_X12_isDigit (zi c) post := by
  rw [gB_t] at h1 h0
  simp (disch := omega) only [wp_X12_isDigit, zi_lit, zi_lt]
  exact ⟨fun z => h0 (by omega), fun z => ⟨fun y => h0 (by omega), fun y => h1 (by omega)⟩⟩
theorem p_isSgR {c : Int} (hc : -2147483648 ≤ c ∧ c < 2147483648) {post : Int32 → Prop} (h1 : sgK c ≠ 52 → post 1) (h0 : sgK c = 52 → post 0) : wp_X12_isSignOf (zi c) post := by
  simp (disch := omega) only [wp_X12_isSignOf, zi_lit, zi_eq]
  refine ⟨fun z => h1 ?_, fun n0 => ⟨fun z => h1 ?_, fun n1 => ⟨fun z => h1 ?_, fun n2 => ⟨fun z => h1 ?_, fun n3 => ⟨fun z => h1 ?_, fun n4 => ⟨fun z => h1 ?_, fun n5 => ⟨fun z => h1 ?_, fun n6 => ⟨fun n7 => h0 ?_, fun z => h1 ?_⟩⟩⟩⟩⟩⟩⟩⟩
  iterate 7 (rw [z]; decide)
  · rw [sgK, if_neg n0, if_neg n1, if_neg n4, if_neg n3, if_neg n5, if_neg n6, if_neg n7, if_neg n2]
  · rw [z]; decide
section ONE
variable {x_279 : Int32 → Int32 → Int32 → Int32 → (Nat → Int32) → (Nat → Int32) → (Nat → Int64) → Int32 → Prop} {kb : Int32 × Int32 × Int32 × Int32 × (Nat → Int32) × (Nat → Int32) × (Nat → Int64) × Int32 × Int32 → Prop} {post : Int32 → Int32 → Int32 → Int32 → (Nat → Int32) → (Nat → Int32) → (Nat → Int64) → Prop} {ta at_ fa : Int32} {pc so va : Int → Int} {m : Nat} {k : Int}
theorem p_cutW (hz : 0 ≤ tz ∧ tz ≤ 1000) (ht : i32 tp) (hk : 0 ≤ k ∧ k < tz) (hm : m < 1002) (h : ∀ s, (rE lB tp tz k - k ≤ 9 → s = 1) ∧ (¬ rE lB tp tz k - k ≤ 9 → s = 4) → kb (ta, zi tz, at_, fa, zA pc, zA (upI so m s), zL (upI va m (hv tp k (rE lB tp tz k - k).toNat)), zi (m + 1), zi (rE lB tp tz k))) : ∃ n, lp (wp_X12_cutAll_L70 (fun t_taped t_size t_at t_fault t_place t_sort t_value l1 l2 l4 l5 => wp_X12_cutAll_b129 x_279 kb (zA tp) post t_taped t_size t_at t_fault t_place t_sort t_value l1 l2 l4 l5) (zA tp) post) n (ta, zi tz, at_, fa, zA pc, zA so, zL va, zi m, zi k, zi k, 0) := by
  have r := rE_rng (p := lB) (tp := tp) (show k ≤ tz by omega)
  refine lp_for0 (fun t => (ta, zi tz, at_, fa, zA pc, zA so, zL va, zi m, zi (k + t), zi k, zl (hv tp k t))) (rE lB tp tz k - k).toNat ?_ ?_ ?_
  · simp only [Int.natCast_zero, Int.add_zero]; rfl
  · intro kb'
    have ex : wp_X12_cutAll_b129 x_279 kb (zA tp) post ta (zi tz) at_ fa (zA pc) (zA so) (zL va) (zi m) (zi (k + ((rE lB tp tz k - k).toNat : Nat))) (zi k) (zl (hv tp k (rE lB tp tz k - k).toNat)) := by
      rw [show k + ((rE lB tp tz k - k).toNat : Int) = rE lB tp tz k by omega]
      simp only [wp_X12_cutAll_b129, wp_X12_cutAll_b148, wp_X12_cutAll_b265, zL_upd (show 0 ≤ (m : Int) ∧ (m : Int) < 2147483648 by omega)]
      simp (disch := omega) only [forall_eq, zi_lit, zi_sub, zi_le, zi_in, zA_upd, zi_add]
      exact ⟨fun q => ⟨by omega, by omega, h _ ⟨fun _ => rfl, fun z => by omega⟩⟩, fun q => ⟨by omega, by omega, h _ ⟨fun z => by omega, fun _ => rfl⟩⟩⟩
    dsimp only [wp_X12_cutAll_L70]
    simp (disch := omega) only [zi_lit, zi_le, zi_in]
    refine ⟨fun _ => ex, fun _ => ⟨by omega, ?_⟩⟩
    rw [zA_get (by omega)]
    refine p_isLtR (ht _) (fun q => ?_) (fun q => ⟨fun _ => ex, fun z => absurd rfl z⟩)
    have := rE_at (p := lB) (tp := tp) (show k ≤ tz by omega) (by omega)
    rw [show k + ((rE lB tp tz k - k).toNat : Int) = rE lB tp tz k by omega] at q
    exact absurd q this
  · intro t hi kb' hkb
    have e : k + (t : Int) + 1 = k + ((t + 1 : Nat) : Int) := by omega
    rw [show hv tp k (t + 1) = if t < 9 then 37 * hv tp k t + (tp (k + t) - 96) else hv tp k t from rfl] at hkb
    have run := rE_run (p := lB) (tp := tp) (tz := tz) (k := k) (j := k + t) (by omega) (by omega)
    have tb := ht (k + t)
    dsimp only [wp_X12_cutAll_L70]
    simp (disch := omega) only [forall_eq, zi_lit, zi_le, zi_in, zi_add, zi_sub]
    refine ⟨fun z => by omega, fun _ => ⟨by omega, ?_⟩⟩
    rw [zA_get (by omega)]
    refine p_isLtR tb (fun q => ⟨fun z => absurd z (by decide), fun _ => ⟨fun z => ?_, fun z => ⟨by omega, ?_⟩⟩⟩) (fun q => absurd run q)
    · rw [if_neg (by omega)] at hkb
      rw [e]; exact hkb
    · rw [if_pos (by omega)] at hkb
      rw [wp_X12_rank]
      refine p_isLtR tb (fun _ => ⟨fun z => absurd z (by decide), fun _ => ?_⟩) (fun q => absurd run q)
      have l1 := lB_t.1 run
      rw [zi_lit, zi_sub, zl_wide (by omega), zl_lit, zl_mul, zl_add, e]; exact hkb
theorem p_cutN (hz : 0 ≤ tz ∧ tz ≤ 1000) (ht : i32 tp) (hk : 0 ≤ k ∧ k < tz) (hm : m < 1002) (h : ∀ s, (rE dgB tp tz k - k ≤ 4 → s = 2) ∧ (¬ rE dgB tp tz k - k ≤ 4 → s = 4) → kb (ta, zi tz, at_, fa, zA pc, zA (upI so m s), zL (upI va m (ns tp k (rE dgB tp tz k - k).toNat)), zi (m + 1), zi (rE dgB tp tz k))) : ∃ n, lp (wp_X12_cutAll_L159 (fun t_taped t_size t_at t_fault t_place t_sort t_value l1 l2 l4 l5 => wp_X12_cutAll_b218 x_279 kb (zA tp) post t_taped t_size t_at t_fault t_place t_sort t_value l1 l2 l4 l5) (zA tp) post) n (ta, zi tz, at_, fa, zA pc, zA so, zL va, zi m, zi k, zi k, 0) := by
  have r := rE_rng (p := dgB) (tp := tp) (show k ≤ tz by omega)
  refine lp_for0 (fun t => (ta, zi tz, at_, fa, zA pc, zA so, zL va, zi m, zi (k + t), zi k, zl (ns tp k t))) (rE dgB tp tz k - k).toNat ?_ ?_ ?_
  · simp only [Int.natCast_zero, Int.add_zero]; rfl
  · intro kb'
    have ex : wp_X12_cutAll_b218 x_279 kb (zA tp) post ta (zi tz) at_ fa (zA pc) (zA so) (zL va) (zi m) (zi (k + ((rE dgB tp tz k - k).toNat : Nat))) (zi k) (zl (ns tp k (rE dgB tp tz k - k).toNat)) := by
      rw [show k + ((rE dgB tp tz k - k).toNat : Int) = rE dgB tp tz k by omega]
      simp only [wp_X12_cutAll_b218, wp_X12_cutAll_b236, wp_X12_cutAll_b265, zL_upd (show 0 ≤ (m : Int) ∧ (m : Int) < 2147483648 by omega)]
      simp (disch := omega) only [forall_eq, zi_lit, zi_sub, zi_le, zi_in, zA_upd, zi_add]
      exact ⟨fun q => ⟨by omega, by omega, h _ ⟨fun _ => rfl, fun z => by omega⟩⟩, fun q => ⟨by omega, by omega, h _ ⟨fun z => by omega, fun _ => rfl⟩⟩⟩
    dsimp only [wp_X12_cutAll_L159]
    simp (disch := omega) only [zi_lit, zi_le, zi_in]
    refine ⟨fun _ => ex, fun _ => ⟨by omega, ?_⟩⟩
    rw [zA_get (by omega)]
    refine p_isDgR (ht _) (fun q => ?_) (fun q => ⟨fun _ => ex, fun z => absurd rfl z⟩)
    have := rE_at (p := dgB) (tp := tp) (show k ≤ tz by omega) (by omega)
    rw [show k + ((rE dgB tp tz k - k).toNat : Int) = rE dgB tp tz k by omega] at q
    exact absurd q this
  · intro t hi kb' hkb
    have e : k + (t : Int) + 1 = k + ((t + 1 : Nat) : Int) := by omega
    rw [show ns tp k (t + 1) = if t < 4 then 10 * ns tp k t + tp (k + t) - 48 else ns tp k t from rfl] at hkb
    have run := rE_run (p := dgB) (tp := tp) (tz := tz) (k := k) (j := k + t) (by omega) (by omega)
    have tb := ht (k + t)
    dsimp only [wp_X12_cutAll_L159]
    simp (disch := omega) only [forall_eq, zi_lit, zi_le, zi_in, zi_add, zi_sub]
    refine ⟨fun z => by omega, fun _ => ⟨by omega, ?_⟩⟩
    rw [zA_get (by omega)]
    refine p_isDgR tb (fun q => ⟨fun z => absurd z (by decide), fun _ => ⟨fun z => ?_, fun z => ⟨by omega, ?_⟩⟩⟩) (fun q => absurd run q)
    · rw [if_neg (by omega)] at hkb
      rw [e]; exact hkb
    · rw [if_pos (by omega)] at hkb
      rw [zl_wide (by omega), zl_lit, zl_lit, zl_mul, zl_add, zl_sub, e]; exact hkb
end ONE
theorem p_cutR (hz : 0 ≤ tz ∧ tz ≤ 1000) (ht : i32 tp) (hb : tokB tp tz) {sz at_ fa : Int32} {p0 s0 v0 : Int → Int} {post : Int32 → Int32 → Int32 → Int32 → (Nat → Int32) → (Nat → Int32) → (Nat → Int64) → Prop} (hp : ∀ (n : Nat) (pc so va : Int → Int), n ≤ 1000 → pos tp tz n = tz → (∀ i, i < n → pos tp tz i < tz) → flR tp tz (n + 1) so va pc → post 0 (zi tz) 0 0 (zA pc) (zA so) (zL va)) : wp_X12_cutAll (zA tp) (zi tz) sz at_ fa (zA p0) (zA s0) (zL v0) post := by
  have fin : ∀ (m : Nat) (pc so va : Int → Int), (m : Int) ≤ tz → pos tp tz m = tz → (∀ i, i < m → pos tp tz i < tz) → flR tp tz m so va pc → (vp_in (zi m) 1002 ∧ (∀ t_sort_285 : Nat → Int32, t_sort_285 = upd (zA so) (Int32.toNatClampNeg (zi m)) 0 → (vp_in (zi m) 1002 ∧ (∀ t_place_295 : Nat → Int32, t_place_295 = upd (zA pc) (Int32.toNatClampNeg (zi m)) (zi tz) → (post 0 (zi tz) 0 0 t_place_295 t_sort_285 (zL va)))))) := by
    intro m pc so va hm pe pl hf
    simp (disch := omega) only [forall_eq, zi_lit, zi_in, zA_upd]
    refine ⟨by omega, by omega, ?_⟩
    have f2 := flR_add (s := 0) (v := va m) (p := tz) hf (by rw [tK_end.2 (by omega)]; exact rTok_end) pe.symm
    rw [upI_same] at f2
    exact hp m _ _ _ (by omega) pe pl f2
  simp only [wp_X12_cutAll]
  refine lp_inv (fun i s => ∃ (k : Int) (m : Nat) (pc so va : Int → Int), s = (0, zi tz, at_, fa, zA pc, zA so, zL va, zi m, zi k) ∧ (0 ≤ k ∧ k ≤ tz) ∧ ((i : Int) ≤ k ∧ (m : Int) ≤ k) ∧ pos tp tz m = rE bB tp tz k ∧ (∀ i, i < m → pos tp tz i < tz) ∧ flR tp tz m so va pc) tz.toNat ?_ ?_ 0 (by omega) ⟨0, 0, p0, s0, v0, rfl, by omega, by omega, rfl, fun i hi => by omega, fun i hi => by omega⟩
  · rintro s ⟨k, m, pc, so, va, rfl, hk, hi, pe, pl, hf⟩ kb
    have e : k = tz := by omega
    subst e
    rw [rE_z (by omega)] at pe
    dsimp only [wp_X12_cutAll_L17]
    simp (disch := omega) only [zi_le]
    exact ⟨fun _ => fin m pc so va (by omega) pe pl hf, fun z => by omega⟩
  · rintro i hi' s ⟨k, m, pc, so, va, rfl, hk, hi, pe, pl, hf⟩ kb hkb
    by_cases kz : k = tz
    · subst kz
      rw [rE_z (by omega)] at pe
      dsimp only [wp_X12_cutAll_L17]
      simp (disch := omega) only [zi_le]
      exact ⟨fun _ => fin m pc so va (by omega) pe pl hf, fun z => by omega⟩
    have tb := ht k
    dsimp only [wp_X12_cutAll_L17]
    rw [zA_get (by omega)]
    simp (disch := omega) only [forall_eq, zi_lit, zi_le, zi_in, zi_eq, zi_add, zA_upd]
    refine ⟨fun z => by omega, fun _ => ⟨by omega, fun q => ?_, fun q10 => ⟨fun q32 => ⟨by omega, ?_⟩, fun q => ?_⟩⟩⟩
    · refine hkb _ ⟨k + 1, m, pc, so, va, rfl, by omega, by omega, ?_, pl, hf⟩
      rw [pe]; exact rE_s (by omega) (bB_t.2 (by omega))
    rotate_left
    · refine hkb _ ⟨k + 1, m, pc, so, va, rfl, by omega, by omega, ?_, pl, hf⟩
      rw [pe]; exact rE_s (by omega) (bB_t.2 (by omega))
    have q : ¬ bB (tp k) = true := fun z => by have := bB_t.1 z; omega
    have pk : pos tp tz m = k := by rw [pe]; exact rE_e q
    have tk := tK_at pk (by omega)
    have tr := tkE_rng (tp := tp) (tz := tz) (k := k) (by omega)
    have pn : pos tp tz (m + 1) = rE bB tp tz (tkE tp tz k) := by rw [pos_tok (by omega), pk]
    have pl' : ∀ i, i < m + 1 → pos tp tz i < tz := by
      intro j hj
      by_cases e : j = m
      · rw [e]; omega
      · exact pl j (by omega)
    have go : ∀ (e s v : Int), e = tkE tp tz k → rTok (kK tp tz k) (kV tp tz k) s v → kb (0, zi tz, at_, fa, zA (upI pc m k), zA (upI so m s), zL (upI va m v), zi (m + 1), zi e) := by
      intro e s v ee hr
      refine hkb _ ⟨e, m + 1, _, _, _, rfl, by omega, by omega, ?_, pl', flR_add hf (by rw [tk.1, tk.2]; exact hr) pk.symm⟩
      rw [ee]; exact pn
    refine p_isLtR tb (fun ql => ⟨fun z => absurd z (by decide), fun _ => ?_⟩) (fun ql => ⟨fun _ => ?_, fun z => absurd rfl z⟩)
    · exact p_cutW hz ht (by omega) (by omega) (fun s hs => go _ _ _ (by rw [tkE, if_pos ql]) (rTok_wrd (by omega) ql hs))
    refine p_isDgR tb (fun qd => ⟨fun z => absurd z (by decide), fun _ => ?_⟩) (fun qd => ⟨fun _ => ?_, fun z => absurd rfl z⟩)
    · exact p_cutN hz ht (by omega) (by omega) (fun s hs => go _ _ _ (by rw [tkE, if_neg ql, if_pos qd]) (rTok_num (by omega) qd hs))
    have cb := hb k (by omega) (by omega)
    rw [zl_wide tb]
    refine p_isSgR tb (fun qs => ⟨fun z => absurd z (by decide), fun _ => ?_⟩) (fun qs => ⟨fun _ => ?_, fun z => absurd rfl z⟩)
    · simp only [wp_X12_cutAll_b261, wp_X12_cutAll_b265, zL_upd (show 0 ≤ (m : Int) ∧ (m : Int) < 2147483648 by omega)]
      simp (disch := omega) only [forall_eq, zi_lit, zi_in, zA_upd, zi_add]
      exact ⟨by omega, by omega, go _ _ _ (by rw [tkE, if_neg ql, if_neg qd]) (rTok_sgn ql qd (by omega) ⟨fun z => absurd z qs, fun _ => rfl⟩)⟩
    · simp only [wp_X12_cutAll_b261, wp_X12_cutAll_b265, zL_upd (show 0 ≤ (m : Int) ∧ (m : Int) < 2147483648 by omega)]
      simp (disch := omega) only [forall_eq, zi_lit, zi_in, zA_upd, zi_add]
      exact ⟨by omega, by omega, go _ _ _ (by rw [tkE, if_neg ql, if_neg qd]) (rTok_sgn ql qd (by omega) ⟨fun _ => rfl, fun z => absurd qs z⟩)⟩
end CT2
