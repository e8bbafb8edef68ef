/-! the class's scan, whole -/
section SC2
variable {tp : Int → Int} {tz : Int}
def flC (tp : Int → Int) (tz : Int) (m : Nat) (f g h : Int → Int) : Prop := ∀ i : Nat, i < m → f i = tK tp tz i ∧ g i = tV tp tz i ∧ h i = pos tp tz i
theorem flC_add {m : Nat} {f g h : Int → Int} {a b c : Int} (hf : flC tp tz m f g h) (e : a = tK tp tz m ∧ b = tV tp tz m ∧ c = pos tp tz m) : flC tp tz (m + 1) (upI f m a) (upI g m b) (upI h m c) := by
  intro i hi
  by_cases q : i = m
  · subst q
    rw [upI_s, upI_s, upI_s]; exact e
  · rw [upI_n (by omega), upI_n (by omega), upI_n (by omega)]
    exact hf i (by omega)
theorem pos_tok {m : Nat} (h : pos tp tz m < tz) : pos tp tz (m + 1) = rE bB tp tz (tkE tp tz (pos tp tz m)) := by
  show (if pos tp tz m < tz then _ else tz) = _
  rw [if_pos h]
theorem tK_at {m : Nat} {k : Int} (e : pos tp tz m = k) (hk : k < tz) : tK tp tz m = kK tp tz k ∧ tV tp tz m = kV tp tz k := by
  rw [tK, tV, e, if_pos hk, if_pos hk]; exact ⟨rfl, rfl⟩
theorem lB_nb {c : Int} (h : lB c = true) : ¬ bB c = true := by rw [lB_t] at h; rw [bB_t]; omega
theorem gB_nb {c : Int} (h : dgB c = true) : ¬ bB c = true := by rw [gB_t] at h; rw [bB_t]; omega
theorem gB_nl {c : Int} (h : dgB c = true) : ¬ lB c = true := by rw [gB_t] at h; rw [lB_t]; omega
theorem p_scanC (hz : 0 ≤ tz ∧ tz ≤ 1000) (ht : i32 tp) (hb : tokB tp tz) {s1 s2 s3 : Int32} {f0 g0 h0 : Int → Int} {post : Int32 → Int32 → Int32 → (Nat → Int32) → (Nat → Int32) → (Nat → Int32) → Prop} (hp : ∀ (n : Nat) (f g h : Int → Int), n ≤ 1000 → pos tp tz n = tz → (∀ i, i < n → pos tp tz i < tz) → flC tp tz (n + 1) f g h → post (zi (n + 1)) (zi (n + 1)) (zi (n + 1)) (zA f) (zA g) (zA h)) : wp_X4_scan (zi tz) (zA tp) s1 s2 s3 (zA f0) (zA g0) (zA h0) post := by
  simp only [wp_X4_scan, wp_X0_empty]
  have fin : ∀ (m : Nat) (f g h : Int → Int), (m : Int) ≤ tz → pos tp tz m = tz → (∀ i, i < m → pos tp tz i < tz) → flC tp tz m f g h → wp_X4_scan_b136 (zi tz) (zA tp) post (zi m) (zi m) (zi m) (zA f) (zA g) (zA h) := by
    intro m f g h hm pe pl hf
    rw [wp_X4_scan_b136]
    refine p_addTok (a := 51) (b := 0) (by omega) ?_
    refine hp m _ _ _ (by omega) pe pl (flC_add hf ⟨(tK_end.2 (by omega)).symm, ?_, pe.symm⟩)
    rw [tV, if_neg (by omega)]
  refine lp_inv (fun i s => ∃ (k : Int) (m : Nat) (f g h : Int → Int), s = (zi m, zi m, zi m, zA f, zA g, zA h, zi k, zi i) ∧ (0 ≤ k ∧ k ≤ tz) ∧ ((i : Int) ≤ k ∧ (m : Int) ≤ k) ∧ pos tp tz m = rE bB tp tz k ∧ (∀ i, i < m → pos tp tz i < tz) ∧ flC tp tz m f g h) tz.toNat ?_ ?_ 0 (by omega) ⟨0, 0, f0, g0, h0, rfl, by omega, by omega, rfl, fun i hi => by omega, fun i hi => by omega⟩
  · rintro s ⟨k, m, f, g, h, rfl, hk, hi, pe, pl, hf⟩ kb
    have e : k = tz := by omega
    subst e
    rw [rE_z (by omega)] at pe
    dsimp only [wp_X4_scan_L25]
    simp (disch := omega) only [zi_lit, zi_lt, zi_le]
    exact ⟨fun _ => fin m f g h (by omega) pe pl hf, fun _ => ⟨fun _ => fin m f g h (by omega) pe pl hf, fun z => by omega⟩⟩
  · rintro i hi' s ⟨k, m, f, g, h, rfl, hk, hi, pe, pl, hf⟩ kb hkb
    dsimp only [wp_X4_scan_L25]
    simp (disch := omega) only [forall_eq, zi_lit, zi_lt, zi_le, zi_add]
    refine ⟨fun z => by omega, fun _ => ⟨fun z => ?_, fun kz => ?_⟩⟩
    · have e : k = tz := by omega
      subst e
      rw [rE_z (by omega)] at pe
      exact fin m f g h (by omega) pe pl hf
    refine p_at (by decide) hz (by omega) (fun a b => ?_) (fun z => by omega)
    refine p_isBl (ht _) (fun q => ⟨fun z => absurd z (by decide), fun _ => ?_⟩) (fun q => ⟨fun _ => ?_, fun z => absurd rfl z⟩)
    · refine hkb _ ⟨k + 1, m, f, g, h, rfl, by omega, by omega, ?_, pl, hf⟩
      rw [pe]; exact rE_s (by omega) q
    have pk : pos tp tz m = k := by rw [pe]; exact rE_e q
    have tk := tK_at pk (by omega)
    have tr := tkE_rng (tp := tp) (tz := tz) (k := k) (by omega)
    have pn : pos tp tz (m + 1) = rE bB tp tz (tkE tp tz k) := by rw [pos_tok (by omega), pk]
    have pl' : ∀ i, i < m + 1 → pos tp tz i < tz := by
      intro j hj
      by_cases e : j = m
      · rw [e]; omega
      · exact pl j (by omega)
    have go : ∀ (e a b : Int), e = tkE tp tz k → a = kK tp tz k → b = kV tp tz k → kb (zi (m + 1), zi (m + 1), zi (m + 1), zA (upI f m a), zA (upI g m b), zA (upI h m k), zi e, zi (i + 1)) := by
      intro e a b ee ea eb
      refine hkb _ ⟨e, m + 1, _, _, _, rfl, by omega, by omega, ?_, pl', flC_add hf ⟨by rw [ea, tk.1], by rw [eb, tk.2], pk.symm⟩⟩
      rw [ee]; exact pn
    refine p_isLt (ht _) (fun ql => ⟨fun z => absurd z (by decide), fun _ => ?_⟩) (fun ql => ⟨fun _ => ?_, fun z => absurd rfl z⟩)
    · refine p_scanWord hz ht hk (by omega) ?_
      exact go _ _ _ (by rw [tkE, if_pos ql]) (by rw [kK, if_pos ql]) (by rw [kV, if_pos ql])
    refine p_isDg (ht _) (fun qd => ⟨fun z => absurd z (by decide), fun _ => ?_⟩) (fun qd => ⟨fun _ => ?_, fun z => absurd rfl z⟩)
    · refine p_scanNum hz ht hk (by omega) ?_
      exact go _ _ _ (by rw [tkE, if_neg ql, if_pos qd]) (by rw [kK, if_neg ql, if_pos qd]) (by rw [kV, if_neg ql, if_pos qd])
    have cb := hb k (by omega) (by omega)
    refine p_sign (by omega) (fun r r0 r8 er => ?_) (fun er => ?_)
    · simp (disch := omega) only [zi_le, zi_add]
      refine ⟨fun _ => ?_, fun z => by omega⟩
      rw [wp_X4_scan_b122]
      refine p_addTok (b := 0) (by omega) ?_
      simp only [forall_eq, zi_lit, zi_add]
      exact go _ _ _ (by rw [tkE, if_neg ql, if_neg qd]) (by rw [kK, if_neg ql, if_neg qd, er]) (by rw [kV, if_neg ql, if_neg qd])
    · refine ⟨fun z => absurd z (by decide), fun _ => ?_⟩
      rw [wp_X4_scan_b122]
      refine p_addTok (b := 0) (by omega) ?_
      simp only [forall_eq, zi_lit, zi_add]
      exact go _ _ _ (by rw [tkE, if_neg ql, if_neg qd]) (by rw [kK, if_neg ql, if_neg qd, er]) (by rw [kV, if_neg ql, if_neg qd])
end SC2
