/-! a line of water -/
section WT
variable {tp : Int → Int} {tz : Int} {N : Nat} {so va pc f g h : Int → Int}
def wtK (tp : Int → Int) (tz : Int) (S : Int → Int) (i : Nat) : Int × Nat := if S 424 = 10 then (5, i) else if nS tp tz 0 9 (i + 1) ≠ 0 then (nS tp tz 0 9 (i + 1), i + 1) else if nS tp tz 0 9 (i + 1 + 1) ≠ 0 then (nS tp tz 0 9 (i + 1 + 1), i + 1 + 1) else smK tp tz (i + 1 + 1 + 1)
theorem p_waterC (hz : 0 ≤ tz ∧ tz ≤ 1000) (hf : flC tp tz (N + 1) f g h) (hN : pos tp tz N = tz) (hN1 : N ≤ 1000) {i : Nat} (hi : i < N) {S : Int → Int} {ww : Nat → Int64} (hwa : waR S ww) {num np site fa : Int32} {post : Int32 → Int32 → Int32 → Int32 → Int32 → Int32 → Int32 → Int32 → Int32 → Int32 → (Nat → Int64) → Prop}
    (g1 : (wtK tp tz S i).1 ≠ 0 → ∀ a b c d e e2 e3 e4 e5, post 0 a b c d e e2 e3 (zi ((wtK tp tz S i).1 + 16 * pos tp tz (wtK tp tz S i).2)) e4 e5)
    (g0 : (wtK tp tz S i).1 = 0 → (0 ≤ sqA tp tz (i + 1) ∧ sqA tp tz (i + 1) < 100) → S 424 < 10 → ((wtK tp tz S i).2 ≤ N ∧ i < (wtK tp tz S i).2) → ∀ e e2 e3, post 1 (zi (((wtK tp tz S i).2 + 1 : Nat) : Int)) (zi (tK tp tz (wtK tp tz S i).2)) (zi (tV tp tz (wtK tp tz S i).2)) (zi (pos tp tz (wtK tp tz S i).2)) e e2 e3 fa (zi (S 424 + 1)) (hbp ww 0 (sqA tp tz (i + 1)))) : wp_X4_readWater (sz N) (sz N) (zA g) (sz N) (zi tz) (zA h) (zA f) (zi ((i + 1 : Nat) : Int)) (zi (tK tp tz i)) (zi (tV tp tz i)) (zi (pos tp tz i)) num np site fa (zi (S 424)) ww post := by
  have w10 := hwa.1
  rw [wp_X4_readWater, zi_lit, zi_lt (by omega)]
  refine ⟨fun q => ?_, fun q => ?_⟩
  rotate_left
  · rw [wtK, if_pos (by omega)] at g1
    rw [wp_X4_wrong, forall_eq, show (5 : Int32) + 16 * zi (pos tp tz i) = _ from flt_c 5 _]
    exact ⟨Or.inl rfl, g1 (show (5 : Int) ≠ 0 by decide) _ _ _ _ _ _ _ _ _⟩
  rw [wtK, if_neg (by omega)] at g1 g0
  refine p_advC hf hN1 (by omega) ?_
  refine p_siteC hz hf hN hN1 (by omega) (fun n1 n2 => ?_) (fun n1 a b c d e e2 e3 => ⟨fun z => absurd rfl z, fun _ => ?_⟩) (fun n1 n2 a b c d e e2 e3 => ⟨fun z => absurd rfl z, fun _ => ?_⟩)
  rotate_left
  · rw [if_pos n1] at g1
    exact g1 n1 _ _ _ _ _ _ _ _ _
  · rw [if_neg (fun z => z n1), if_pos n2] at g1
    exact g1 n2 _ _ _ _ _ _ _ _ _
  have sr := sqA_rng n1 n2
  have i1 := nS_lt hN (by omega) n1
  have i2 := nS_lt hN (by omega) n2
  rw [if_neg (fun z => z n1), if_neg (fun z => z n2), smK] at g1 g0
  refine ⟨fun _ x45 e45 => ?_, fun z => absurd z (by decide)⟩
  have ex : x45 = zi (S 424 + 1) := by rw [e45, zi_lit, zi_add]
  rw [ex]
  refine p_put (r := 0) (by decide) (by omega) sr ?_
  refine p_expC (q := 39) hf hN hN1 (by omega) (by omega) (fun e => ?_) (fun e => ?_)
  · rw [if_pos e] at g0
    have jN := tK_lt hN (i := i + 1 + 1 + 1) (by omega) (fun z => by rw [show tK tp tz (i + 1 + 1 + 1) = 39 from e] at z; exact absurd z (by decide))
    exact ⟨Or.inr rfl, g0 rfl sr q ⟨by omega, by omega⟩ _ _ _⟩
  · rw [if_neg e] at g1
    exact ⟨Or.inl rfl, g1 (show (1 : Int) ≠ 0 by decide) _ _ _ _ _ _ _ _ _⟩
theorem p_waterR (hz : 0 ≤ tz ∧ tz ≤ 1000) (hf : flR tp tz (N + 1) so va pc) (hN : pos tp tz N = tz) (hN1 : N ≤ 1000) {i : Nat} (hi : i < N) {T S : Int → Int} (hT : i32 T) (hS : ∀ j, 0 ≤ j → j < 440 → S j = T (440 + j)) (h10 : 0 ≤ S 424 ∧ S 424 ≤ 10) {post : Int32 → Int32 → (Nat → Int32) → Prop}
    (g1 : (wtK tp tz S i).1 ≠ 0 → ∀ a T', scr T T' → post a (zi ((wtK tp tz S i).1 + 16 * pos tp tz (wtK tp tz S i).2)) (zA T'))
    (g0 : (wtK tp tz S i).1 = 0 → post (zi ((wtK tp tz S i).2 : Int)) 0 (zA (upI (upI T (865 + S 424) (sqA tp tz (i + 1))) 864 (S 424 + 1)))) : wp_X12_readWater (zL va) (zA pc) (zA so) (zi i) 0 (zA T) (fun at_ fa towns => wp_X12_takeSign (zA so) (zL va) (zA pc) at_ fa 59 (fun at_ fa => post at_ fa towns)) := by
  have e424 := hS 424 (by omega) (by omega)
  have e864 : zA T (Int32.toNatClampNeg 864) = zi (S 424) := by
    rw [zi_lit, zA_get (by omega), e424]; rfl
  have i864 : vp_in 864 2640 := by rw [zi_lit, zi_in (by omega)]; omega
  have sc : ∀ v w : Int, (-2147483648 ≤ v ∧ v < 2147483648) → (-2147483648 ≤ w ∧ w < 2147483648) → scr T (upI (upI T (865 + S 424) v) 864 w) ∨ S 424 = 10 := by
    intro v w hv hw
    by_cases q : S 424 = 10
    · exact Or.inr q
    · exact Or.inl (scr_up (scr_up ⟨hT, fun _ _ => rfl⟩ (by omega) hv) (by omega) hw)
  rw [wp_X12_readWater]
  refine ⟨i864, fun x8 e8 => ?_⟩
  rw [e864] at e8
  subst e8
  refine ⟨fun q => ?_, fun q => ?_⟩
  rotate_left
  · rw [zi_lit, zi_eq (by omega)] at q
    rw [wtK, if_pos q] at g1
    exact p_wrongR (k := 5) hf hz hN1 (by omega) (p_takeSignF (flt_ne hz (by omega) i) (g1 (show (5 : Int) ≠ 0 by decide) _ T ⟨hT, fun _ _ => rfl⟩))
  rw [zi_lit, zi_eq (by omega)] at q
  rw [wtK, if_neg q] at g1 g0
  have a1 : (865 : Int32) + zi (S 424) = zi (865 + S 424) := by rw [zi_lit, zi_add]
  have up1 : ∀ v : Int, upd (zA T) (Int32.toNatClampNeg (zi (865 + S 424))) (zi v) = zA (upI T (865 + S 424) v) := fun v => zA_upd (by omega)
  have i865 : vp_in (zi (865 + S 424)) 2640 := by rw [zi_in (by omega)]; omega
  have g864 : ∀ v : Int, zA (upI T (865 + S 424) v) (Int32.toNatClampNeg 864) = zi (S 424) := by
    intro v
    rw [zi_lit, zA_get (by omega), upI_n (by omega), e424]; rfl
  have s864 : (zi (S 424) : Int32) + 1 = zi (S 424 + 1) := by rw [zi_lit, zi_add]
  have u864 : ∀ v w : Int, upd (zA (upI T (865 + S 424) v)) (Int32.toNatClampNeg 864) (zi w) = zA (upI (upI T (865 + S 424) v) 864 w) := fun v w => by rw [show (864 : Int32) = zi 864 from rfl, zA_upd (by omega)]
  have fl : ∀ (k : Int) (j : Nat) (a : Int32) (v : Int), (-2147483648 ≤ v ∧ v < 2147483648) → k = 1 ∨ k = 3 ∨ k = 4 ∨ k = 5 → (∀ a T', scr T T' → post a (zi (k + 16 * pos tp tz j)) (zA T')) → ∀ x62 : Int32, x62 = zi v → (∀ x62_1 : Int32, x62_1 = 865 + zi (S 424) → (vp_in x62_1 2640 ∧ (∀ t_towns_62 : Nat → Int32, t_towns_62 = upd (zA T) (Int32.toNatClampNeg x62_1) x62 → (vp_in 864 2640 ∧ (∀ x74 : Int32, x74 = (t_towns_62 (Int32.toNatClampNeg 864)) + 1 → (vp_in 864 2640 ∧ (∀ t_towns_74 : Nat → Int32, t_towns_74 = upd t_towns_62 (Int32.toNatClampNeg 864) x74 → (wp_X12_takeSign (zA so) (zL va) (zA pc) a (zi (k + 16 * pos tp tz j)) 59 (fun at_ fa => post at_ fa t_towns_74))))))))) := by
    intro k j a v hv hk hp x62 e62
    subst e62
    simp only [forall_eq, a1, up1, g864, s864, u864]
    refine ⟨i865, i864, i864, p_takeSignF (flt_ne hz hk j) (hp _ _ ?_)⟩
    exact (sc v (S 424 + 1) hv (by omega)).resolve_right q
  rw [forall_eq, zi_p1]
  refine p_numR (lo := 0) (hi' := 9) hz hf hN1 (by omega) (by omega) (fun n1 => ?_) (fun n1 => ?_)
  rotate_left
  · have rg := nS_rng (tp := tp) (tz := tz) (lo := 0) (hi := 9) (i := i + 1)
    rw [if_pos n1] at g1
    refine p_numF (flt_ne hz (by omega) _) (flt_le hz (by omega) _) ?_
    exact fun x62 e62 => fl _ (i + 1) _ 0 (by omega) (by omega) (g1 n1) x62 (by rw [e62]; rfl)
  have i1 := nS_lt hN (by omega) n1
  refine p_numR (lo := 0) (hi' := 9) hz hf hN1 (by omega) (by omega) (fun n2 => ?_) (fun n2 => ?_)
  rotate_left
  · have rg := nS_rng (tp := tp) (tz := tz) (lo := 0) (hi := 9) (i := i + 1 + 1)
    have v1 := nS_0 n1
    rw [if_neg (fun z => z n1), if_pos n2] at g1
    refine fun x62 e62 => fl _ (i + 1 + 1) _ (tV tp tz (i + 1)) (by omega) (by omega) (g1 n2) x62 ?_
    rw [e62, zi_lit, zi_lit, zi_mul, zi_add]; congr 1; omega
  have i2 := nS_lt hN (by omega) n2
  have sr := sqA_rng n1 n2
  rw [if_neg (fun z => z n1), if_neg (fun z => z n2), smK] at g1 g0
  intro x62 e62
  have ex : x62 = zi (sqA tp tz (i + 1)) := by rw [e62, zi_lit, zi_mul, zi_add, sqA]
  subst ex
  simp only [forall_eq, a1, up1, g864, s864, u864]
  refine ⟨i865, i864, i864, ?_⟩
  refine p_takeSignR (c := 59) hf hz hN1 (by omega) (by omega) (by decide) (fun e => ?_) (fun e => ?_)
  · rw [if_pos (show tK tp tz (i + 1 + 1 + 1) = 39 from e)] at g0
    exact g0 rfl
  · rw [if_neg (show ¬ tK tp tz (i + 1 + 1 + 1) = 39 from e)] at g1
    exact g1 (show (1 : Int) ≠ 0 by decide) _ _ ((sc (sqA tp tz (i + 1)) (S 424 + 1) (by omega) (by omega)).resolve_right q)
end WT
