/-! follow: both sides -/
section FO
variable {tw kd hg nt : Int → Int}
theorem p_followC (hK : kdR tw kd hg) (hnt : ntR nt tw) (hnti : i32 nt) {f : Int → Int} {z s : Int} (hz : 0 ≤ z ∧ z ≤ 30) (hf : ∀ j, 0 ≤ j → j < z → 0 ≤ f j ∧ f j < 100) (a1 : ir s) {post : Int32 → Int32 → (Nat → Int32) → Prop} (h1 : folP tw f z s → post (zi (folV tw f z s)) (zi (z + 1)) (zA (upI f z s))) (h0 : ¬ folP tw f z s → post (zi (folV tw f z s)) (zi z) (zA f)) : wp_X11_follow (zA kd) (zA nt) (zi z) (zA f) (zi s) post := by
  have g0 : ¬ folP tw f z s → post (zi (-1)) (zi z) (zA f) := fun q => by have := h0 q; rw [folV, if_neg q] at this; exact this
  have g1 : folP tw f z s → post (zi (z + 1)) (zi (z + 1)) (zA (upI f z s)) := fun q => by have := h1 q; rw [folV, if_pos q] at this; exact this
  simp only [wp_X11_follow]
  refine p_isOpen hK a1 (fun q => ⟨fun _ => ?_, fun z => absurd z (by decide)⟩) (fun q => ⟨fun z => absurd rfl z, fun _ => g0 (fun y => q y.1)⟩)
  have add : (z = 0 ∨ ∃ w, 0 ≤ w ∧ w < 4 ∧ stp (f (z - 1)) w = s) → wp_X11_follow_b51 (zA kd) (zA nt) post (zi z) (zA f) (zi s) := by
    intro y
    simp only [wp_X11_follow_b51]
    refine p_add (by decide) (by omega) (fun x => ⟨fun w => absurd w (by decide), fun _ => ?_⟩) (fun x => ⟨fun _ => g0 (fun v => by have := v.2.1; omega), fun w => absurd rfl w⟩)
    exact g1 ⟨q, x, y⟩
  rw [show (zi z ≤ 0) = (zi z ≤ zi 0) from rfl, zi_le (by omega)]
  refine ⟨fun y => add (Or.inl (by omega)), fun y => ?_⟩
  rw [show (1 : Int32) = zi 1 from rfl, zi_sub]
  refine p_at (by decide) (by omega) (by omega) (fun _ _ => ?_) (fun x => by omega)
  refine p_isNext hnt hnti (hf (z - 1) (by omega) (by omega)) q (fun x => ⟨fun _ => add (Or.inr x), fun w => absurd w (by decide)⟩) (fun x => ⟨fun w => absurd rfl w, fun _ => g0 (fun v => ?_)⟩)
  rcases v.2.2 with u | u
  · omega
  · exact x u
theorem p_followR (hi : i32 tw) {f : Int → Int} {z s : Int} (hz : 0 ≤ z ∧ z ≤ 30) (hf : ∀ j, 0 ≤ j → j < z → 0 ≤ f j ∧ f j < 100) (a1 : ir s) {th : Int32} {post : Int32 → Int32 → Int32 → (Nat → Int32) → Prop} (h1 : folP tw f z s → post (zi (folV tw f z s)) 0 (zi (z + 1)) (zA (upI f z s))) (h0 : ¬ folP tw f z s → post (zi (folV tw f z s)) 0 (zi z) (zA f)) : wp_X12_follow (zA tw) th (zi z) (zA f) (zi s) post := by
  have g0 : ¬ folP tw f z s → post (zi (-1)) (zi 0) (zi z) (zA f) := fun q => by have := h0 q; rw [folV, if_neg q] at this; exact this
  have g1 : folP tw f z s → post (zi (z + 1)) (zi 0) (zi (z + 1)) (zA (upI f z s)) := fun q => by have := h1 q; rw [folV, if_pos q] at this; exact this
  have b1 := a1
  simp only [ir] at b1
  simp only [wp_X12_follow]
  refine p_isPlaceR hi a1 (fun q => ⟨fun z => absurd z (by decide), fun _ => ?_⟩) (fun q => ⟨fun _ => g0 (fun y => q y.1), fun z => absurd rfl z⟩)
  simp (disch := omega) only [zi_lit, zi_eq]
  refine ⟨fun x => ⟨fun y => ?_, fun y => ?_⟩, fun x => g0 (fun v => by have := v.2.1; omega)⟩
  · have hfz := hf (z - 1) (by omega) (by omega)
    refine lp_inv (fun i s' => (s' = (zi 0, zi z, zA f, zi s, zi 0, zi i) ∧ ∀ w, 0 ≤ w → w < (i : Int) → stp (f (z - 1)) w ≠ s) ∨ (s' = (zi 0, zi z, zA f, zi s, zi 1, zi i) ∧ ∃ w, 0 ≤ w ∧ w < 4 ∧ stp (f (z - 1)) w = s)) 4 ?_ ?_ 0 (Nat.zero_le _) (Or.inl ⟨rfl, fun j a c => by omega⟩)
    · rintro s' (⟨rfl, hno⟩ | ⟨rfl, he⟩) kb
      · simp (disch := omega) only [wp_X12_follow_L39, wp_X12_follow_b86, zi_lit, zi_le]
        refine ⟨fun _ => ⟨fun u => absurd trivial u, fun _ => g0 (fun v => ?_)⟩, fun u => absurd (by decide) u⟩
        rcases v.2.2 with u | ⟨w, w0, w1, w2⟩
        · exact y u
        · exact hno w w0 w1 w2
      · simp (disch := omega) only [wp_X12_follow_L39, wp_X12_follow_b86, forall_eq, zi_lit, zi_le, zi_in, zi_add, zA_upd]
        exact ⟨fun _ => ⟨fun _ => ⟨by omega, g1 ⟨q, by omega, Or.inr he⟩⟩, fun u => absurd u (by decide)⟩, fun u => absurd (by decide) u⟩
    · rintro i hi' s' (⟨rfl, hno⟩ | ⟨rfl, he⟩) kb hkb
      · have hni : ((i + 1 : Nat) : Int) = (i : Int) + 1 := by omega
        have sr := stp_rng (s := f (z - 1)) (w := i) hfz
        simp (disch := omega) only [wp_X12_follow_L39, forall_eq, zi_lit, zi_le, zi_sub, zi_in, zA_get]
        refine ⟨fun u => by omega, fun _ => ⟨fun u => by omega, fun _ => ⟨fun u => absurd trivial u, fun _ => ⟨by omega, ?_⟩⟩⟩⟩
        refine p_stepTo hfz (by omega) ?_
        simp (disch := omega) only [zi_eq, zi_add]
        refine ⟨fun u => hkb _ (Or.inl ⟨by rw [hni], fun w w0 w1 => ?_⟩), fun u => hkb _ (Or.inr ⟨by rw [hni], i, by omega, by omega, u⟩)⟩
        by_cases e : w = i
        · rw [e]; exact u
        · exact hno w w0 (by omega)
      · have hni : ((i + 1 : Nat) : Int) = (i : Int) + 1 := by omega
        simp (disch := omega) only [wp_X12_follow_L39, forall_eq, zi_lit, zi_le, zi_add]
        refine ⟨fun u => by omega, fun _ => ⟨fun u => by omega, fun _ => ⟨fun _ => hkb _ (Or.inr ⟨by rw [hni], he⟩), fun u => absurd u (by decide)⟩⟩⟩
  · refine ⟨1, ?_⟩
    simp (disch := omega) only [lp, wp_X12_follow_L39, wp_X12_follow_b86, forall_eq, zi_lit, zi_le, zi_in, zi_add, zA_upd]
    exact ⟨fun u => absurd u (by decide), fun _ => ⟨fun _ => ⟨fun _ => ⟨by omega, g1 ⟨q, by omega, Or.inl y⟩⟩, fun u => absurd u (by decide)⟩, fun u => by omega⟩⟩
end FO
