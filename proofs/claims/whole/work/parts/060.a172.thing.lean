/-! a line of a house, a tree or an arcade -/
section TH
variable {tp : Int → Int} {tz : Int} {N : Nat} {so va pc f g h : Int → Int}
/-- what stands behind a line: the place behind its sign ;, or the fault -/
def smK (tp : Int → Int) (tz : Int) (j : Nat) : Int × Nat := if tK tp tz j = 39 then (0, j + 1) else (1, j)
def sqA (tp : Int → Int) (tz : Int) (i : Nat) : Int := 10 * tV tp tz (i + 1) + tV tp tz i
theorem sqA_rng {i : Nat} (h0 : nS tp tz 0 9 i = 0) (h1 : nS tp tz 0 9 (i + 1) = 0) : 0 ≤ sqA tp tz i ∧ sqA tp tz i < 100 := by
  have a := nS_0 h0
  have b := nS_0 h1
  rw [sqA]; omega
def thK (tp : Int → Int) (tz : Int) (S : Int → Int) (what : Int) (i : Nat) : Int × Nat := if nS tp tz 0 9 (i + 1) ≠ 0 then (nS tp tz 0 9 (i + 1), i + 1) else if nS tp tz 0 9 (i + 1 + 1) ≠ 0 then (nS tp tz 0 9 (i + 1 + 1), i + 1 + 1) else if S (sqA tp tz (i + 1)) ≠ 0 then (3, i + 1 + 1) else if what = 2 then smK tp tz (i + 1 + 1 + 1) else if nS tp tz 1 99 (i + 1 + 1 + 1) ≠ 0 then (nS tp tz 1 99 (i + 1 + 1 + 1), i + 1 + 1 + 1) else smK tp tz (i + 1 + 1 + 1 + 1)
def thH (tp : Int → Int) (tz : Int) (what : Int) (i : Nat) : Int := if what = 2 then 0 else tV tp tz (i + 1 + 1 + 1)
theorem p_siteC (hz : 0 ≤ tz ∧ tz ≤ 1000) (hf : flC tp tz (N + 1) f g h) (hN : pos tp tz N = tz) (hN1 : N ≤ 1000) {i : Nat} (hi : i ≤ N) {num np site fa : Int32} {post : Int32 → Int32 → Int32 → Int32 → Int32 → Int32 → Int32 → Int32 → Int32 → Prop}
    (h0 : nS tp tz 0 9 i = 0 → nS tp tz 0 9 (i + 1) = 0 → post 1 (zi ((i + 1 + 1 + 1 : Nat) : Int)) (zi (tK tp tz (i + 1 + 1))) (zi (tV tp tz (i + 1 + 1))) (zi (pos tp tz (i + 1 + 1))) (zi (tV tp tz (i + 1))) (zi (pos tp tz (i + 1))) (zi (sqA tp tz i)) fa)
    (h1 : nS tp tz 0 9 i ≠ 0 → ∀ a b c d e e2 e3, post 0 a b c d e e2 e3 (zi (nS tp tz 0 9 i + 16 * pos tp tz i)))
    (h2 : nS tp tz 0 9 i = 0 → nS tp tz 0 9 (i + 1) ≠ 0 → ∀ a b c d e e2 e3, post 0 a b c d e e2 e3 (zi (nS tp tz 0 9 (i + 1) + 16 * pos tp tz (i + 1)))) : wp_X4_readSite (sz N) (sz N) (zA g) (sz N) (zi tz) (zA h) (zA f) (zi ((i + 1 : Nat) : Int)) (zi (tK tp tz i)) (zi (tV tp tz i)) (zi (pos tp tz i)) num np site fa post := by
  rw [wp_X4_readSite]
  refine p_numC (lo := 0) (hi' := 9) hz hf hN hN1 hi (by omega) (fun n0 => ⟨fun _ => ?_, fun z => absurd z (by decide)⟩) (fun n0 => ⟨fun z => absurd rfl z, fun _ => h1 n0 _ _ _ _ _ _ _⟩)
  have iN := nS_lt hN hi n0
  refine p_numC (lo := 0) (hi' := 9) hz hf hN hN1 (by omega) (by omega) (fun n1 => ⟨fun _ x ex => ?_, fun z => absurd z (by decide)⟩) (fun n1 => ⟨fun z => absurd rfl z, fun _ => h2 n0 n1 _ _ _ _ _ _ _⟩)
  have e : x = zi (sqA tp tz i) := by rw [ex, zi_lit, zi_mul, zi_add, sqA]; congr 1; omega
  rw [e]
  exact h0 n0 n1
theorem p_thingC (hz : 0 ≤ tz ∧ tz ≤ 1000) (hf : flC tp tz (N + 1) f g h) (hN : pos tp tz N = tz) (hN1 : N ≤ 1000) {i : Nat} (hi : i < N) {S kd hg : Int → Int} (hk : kdR S kd hg) (hs : twR S) {what : Int} (hw : 0 ≤ what ∧ what ≤ 2) {tok val pla num np site fa : Int32} {post : Int32 → Int32 → Int32 → Int32 → Int32 → Int32 → Int32 → Int32 → Int32 → (Nat → Int32) → (Nat → Int32) → Prop}
    (g1 : (thK tp tz S what i).1 ≠ 0 → ∀ a b c d e e2 e3 e4 e5, post 0 a b c d e e2 e3 (zi ((thK tp tz S what i).1 + 16 * pos tp tz (thK tp tz S what i).2)) e4 e5)
    (g0 : (thK tp tz S what i).1 = 0 → (0 ≤ sqA tp tz (i + 1) ∧ sqA tp tz (i + 1) < 100) → S (sqA tp tz (i + 1)) = 0 → (0 ≤ thH tp tz what i ∧ thH tp tz what i ≤ 99) → ((thK tp tz S what i).2 ≤ N ∧ i < (thK tp tz S what i).2) → ∀ e e2 e3, post 1 (zi (((thK tp tz S what i).2 + 1 : Nat) : Int)) (zi (tK tp tz (thK tp tz S what i).2)) (zi (tV tp tz (thK tp tz S what i).2)) (zi (pos tp tz (thK tp tz S what i).2)) e e2 e3 fa (zA (upI kd (sqA tp tz (i + 1)) (what + 1))) (zA (upI hg (sqA tp tz (i + 1)) (thH tp tz what i)))) : wp_X4_readBuilding (sz N) (sz N) (zA g) (sz N) (zi tz) (zA h) (zA f) (zi ((i + 1 : Nat) : Int)) tok val pla num np site fa (zA kd) (zA hg) (zi (what + 1)) post := by
  rw [wp_X4_readBuilding]
  refine p_advC hf hN1 (by omega) ?_
  refine p_siteC hz hf hN hN1 (by omega) (fun n1 n2 => ?_) (fun n1 a b c d e e2 e3 => ⟨fun z => absurd rfl z, fun _ => ?_⟩) (fun n1 n2 a b c d e e2 e3 => ⟨fun z => absurd rfl z, fun _ => ?_⟩)
  rotate_left
  · rw [thK, if_pos n1] at g1
    exact g1 n1 _ _ _ _ _ _ _ _ _
  · rw [thK, if_neg (fun z => z n1), if_pos n2] at g1
    exact g1 n2 _ _ _ _ _ _ _ _ _
  have sr := sqA_rng n1 n2
  have i1 := nS_lt hN (by omega) n1
  have i2 := nS_lt hN (by omega) n2
  rw [thK, if_neg (fun z => z n1), if_neg (fun z => z n2)] at g1 g0
  refine ⟨fun _ => ?_, fun z => absurd z (by decide)⟩
  refine p_isBare hk (by omega) (fun q => ⟨fun _ => ?_, fun z => absurd z (by decide)⟩) (fun q => ⟨fun z => absurd rfl z, fun _ => ?_⟩)
  rotate_left
  · have ne : S (sqA tp tz (i + 1)) ≠ 0 := fun z => q ⟨sr, z⟩
    rw [if_pos ne] at g1
    rw [wp_X4_wrong, forall_eq, show (3 : Int32) + 16 * zi (pos tp tz (i + 1 + 1)) = _ from flt_c 3 _]
    exact ⟨Or.inl rfl, g1 (show (3 : Int) ≠ 0 by decide) _ _ _ _ _ _ _ _ _⟩
  rw [if_neg (fun z => z q.2)] at g1 g0
  have fin : ∀ (j : Nat) (nu : Int32) (np site : Int32), j ≤ N → i < j → (if what = 2 then smK tp tz (i + 1 + 1 + 1) else if nS tp tz 1 99 (i + 1 + 1 + 1) ≠ 0 then (nS tp tz 1 99 (i + 1 + 1 + 1), i + 1 + 1 + 1) else smK tp tz (i + 1 + 1 + 1 + 1)) = smK tp tz j → (0 ≤ thH tp tz what i ∧ thH tp tz what i ≤ 99) → wp_X4_readBuilding_b75 (sz N) (sz N) (zA g) (sz N) (zi tz) (zA h) (zA f) post (zi ((j + 1 : Nat) : Int)) (zi (tK tp tz j)) (zi (tV tp tz j)) (zi (pos tp tz j)) nu np site fa (zA kd) (zA hg) (zi (thH tp tz what i)) (zi (what + 1)) (zi (sqA tp tz (i + 1))) := by
    intro j nu np site hj hij ej hh
    rw [ej, smK] at g1 g0
    rw [wp_X4_readBuilding_b75]
    refine p_putTown sr ?_
    refine p_expC (q := 39) hf hN hN1 hj (by omega) (fun e => ?_) (fun e => ?_)
    · rw [if_pos e] at g0
      have jN := tK_lt hN hj (by omega)
      exact ⟨Or.inr rfl, g0 rfl sr q.2 hh ⟨by omega, by omega⟩ _ _ _⟩
    · rw [if_neg e] at g1
      exact ⟨Or.inl rfl, g1 (show (1 : Int) ≠ 0 by decide) _ _ _ _ _ _ _ _ _⟩
  refine ⟨fun z => ?_, fun z => ?_⟩
  · rw [zi_lit, zi_eq (by omega)] at z
    have w2 : what = 2 := by omega
    rw [wp_X4_readBuilding_b56]
    refine ⟨fun y => ?_, fun y => ?_⟩
    · rw [zi_lit, zi_eq (by omega)] at y; omega
    · have hh : thH tp tz what i = 0 := by rw [thH, if_pos w2]
      have := fin (i + 1 + 1 + 1) (zi (tV tp tz (i + 1 + 1))) (zi (pos tp tz (i + 1 + 1))) (zi (sqA tp tz (i + 1))) (by omega) (by omega) (if_pos w2) (by omega)
      rw [hh] at this
      exact this
  · rw [zi_lit, zi_eq (by omega)] at z
    have w2 : what ≠ 2 := by omega
    rw [if_neg w2] at g1 g0
    refine p_numC (lo := 1) (hi' := 99) hz hf hN hN1 (by omega) (by omega) (fun n3 => ⟨fun _ => ?_, fun y => absurd y (by decide)⟩) (fun n3 => ⟨fun y => absurd rfl y, fun _ => ?_⟩)
    · have hh : thH tp tz what i = tV tp tz (i + 1 + 1 + 1) := by rw [thH, if_neg w2]
      have v3 : tK tp tz (i + 1 + 1 + 1) = 50 ∧ 1 ≤ tV tp tz (i + 1 + 1 + 1) ∧ tV tp tz (i + 1 + 1 + 1) ≤ 99 := nS_0 n3
      have i3 := nS_lt hN (by omega) n3
      rw [wp_X4_readBuilding_b56]
      refine ⟨fun y => ?_, fun y => ?_⟩
      · have := fin (i + 1 + 1 + 1 + 1) (zi (tV tp tz (i + 1 + 1 + 1))) (zi (pos tp tz (i + 1 + 1 + 1))) (zi (sqA tp tz (i + 1))) (by omega) (by omega) (by rw [if_neg w2, if_neg (fun z => z n3)]) (by omega)
        rw [hh] at this
        exact this
      · rw [zi_lit, zi_eq (by omega)] at y; omega
    · rw [if_pos n3] at g1
      exact g1 n3 _ _ _ _ _ _ _ _ _
/-- the reference's row of towns is another one only where the new town is written -/
def scr (T T' : Int → Int) : Prop := i32 T' ∧ ∀ k, k < 440 ∨ 880 ≤ k → T' k = T k
theorem scr_up {T T' : Int → Int} {k v : Int} (h : scr T T') (hk : 440 ≤ k ∧ k < 880) (hv : -2147483648 ≤ v ∧ v < 2147483648) : scr T (upI T' k v) := ⟨i32_up h.1 hv, fun j hj => by rw [upI_n (by omega)]; exact h.2 j hj⟩
theorem p_thingR (hz : 0 ≤ tz ∧ tz ≤ 1000) (hf : flR tp tz (N + 1) so va pc) (hN : pos tp tz N = tz) (hN1 : N ≤ 1000) {i : Nat} (hi : i < N) {T S : Int → Int} (hT : i32 T) (hS : ∀ j, 0 ≤ j → j < 440 → S j = T (440 + j)) (hs : twR S) {what : Int} (hw : 0 ≤ what ∧ what ≤ 2) {post : Int32 → Int32 → (Nat → Int32) → Prop}
    (g1 : (thK tp tz S what i).1 ≠ 0 → ∀ a, post a (zi ((thK tp tz S what i).1 + 16 * pos tp tz (thK tp tz S what i).2)) (zA T))
    (g1' : (thK tp tz S what i).1 ≠ 0 → (0 ≤ sqA tp tz (i + 1) ∧ sqA tp tz (i + 1) < 100) → ∀ a, post a (zi ((thK tp tz S what i).1 + 16 * pos tp tz (thK tp tz S what i).2)) (zA (upI (upI T (440 + sqA tp tz (i + 1)) (what + 1)) (540 + sqA tp tz (i + 1)) (thH tp tz what i))))
    (g0 : (thK tp tz S what i).1 = 0 → post (zi ((thK tp tz S what i).2 : Int)) 0 (zA (upI (upI T (440 + sqA tp tz (i + 1)) (what + 1)) (540 + sqA tp tz (i + 1)) (thH tp tz what i)))) : wp_X12_readThing (zL va) (zA pc) (zA so) (zi i) 0 (zA T) (zi what) (fun at_ fa towns => wp_X12_takeSign (zA so) (zL va) (zA pc) at_ fa 59 (fun at_ fa => post at_ fa towns)) := by
  have ff : ∀ (k : Int) (j : Nat) (a l1 l2 : Int32), k = 1 ∨ k = 3 ∨ k = 4 ∨ k = 5 → (thK tp tz S what i) = (k, j) → wp_X12_readThing_b86 (zL va) (zA pc) (zA so) (fun at_ fa towns => wp_X12_takeSign (zA so) (zL va) (zA pc) at_ fa 59 (fun at_ fa => post at_ fa towns)) a (zi (k + 16 * pos tp tz j)) (zA T) l1 l2 := by
    intro k j a l1 l2 hk e
    rw [e] at g1
    have fn := flt_ne (tp := tp) hz hk j
    have fl := flt_le (tp := tp) hz hk j
    have last : ∀ b l3 s0, wp_X12_readThing_b110 (zL va) (zA pc) (zA so) (fun at_ fa towns => wp_X12_takeSign (zA so) (zL va) (zA pc) at_ fa 59 (fun at_ fa => post at_ fa towns)) b (zi (k + 16 * pos tp tz j)) (zA T) l1 l2 l3 s0 := fun b l3 s0 => ⟨fun _ => p_takeSignF fn (g1 (show k ≠ 0 by omega) _), fun z => absurd z fn⟩
    rw [wp_X12_readThing_b86]
    exact p_numF fn fl ⟨fun _ => p_numF fn fl (last _ _ _), fun _ => last _ _ _⟩
  rw [wp_X12_readThing, forall_eq, zi_p1]
  refine p_numR (lo := 0) (hi' := 9) hz hf hN1 (by omega) (by omega) (fun n1 => ⟨fun z => absurd rfl z, fun _ => ?_⟩) (fun n1 => ⟨fun _ => ?_, fun z => absurd z (flt_ne hz ?_ _)⟩)
  rotate_left
  · have := nS_rng (tp := tp) (tz := tz) (lo := 0) (hi := 9) (i := i + 1)
    exact ff _ (i + 1) _ _ _ (by omega) (by rw [thK, if_pos n1])
  · have := nS_rng (tp := tp) (tz := tz) (lo := 0) (hi := 9) (i := i + 1)
    omega
  have i1 := nS_lt hN (by omega) n1
  have v1 := nS_0 n1
  have vr2 := tV_rng (tp := tp) (tz := tz) (i := i + 1 + 1)
  obtain ⟨⟨r1, r2, r3, r4, r5, r6, r7⟩, _⟩ := hf (i + 1 + 1) (by omega)
  have s2 : ∀ x, nS tp tz 0 9 (i + 1 + 1) = x → x ≠ 0 → wp_X12_readThing_b86 (zL va) (zA pc) (zA so) (fun at_ fa towns => wp_X12_takeSign (zA so) (zL va) (zA pc) at_ fa 59 (fun at_ fa => post at_ fa towns)) (zi ((i + 1 + 1 : Nat) : Int)) 0 (zA T) (zi what) (zi (tV tp tz (i + 1))) := by
    intro x ex nx
    have n2 : nS tp tz 0 9 (i + 1 + 1) ≠ 0 := by rw [ex]; exact nx
    have rg := nS_rng (tp := tp) (tz := tz) (lo := 0) (hi := 9) (i := i + 1 + 1)
    rw [thK, if_neg (fun z => z n1), if_pos n2] at g1
    have fn := flt_ne (tp := tp) hz (k := nS tp tz 0 9 (i + 1 + 1)) (by omega) (i + 1 + 1)
    have fl := flt_le (tp := tp) hz (k := nS tp tz 0 9 (i + 1 + 1)) (by omega) (i + 1 + 1)
    have last : ∀ b l3 s0, wp_X12_readThing_b110 (zL va) (zA pc) (zA so) (fun at_ fa towns => wp_X12_takeSign (zA so) (zL va) (zA pc) at_ fa 59 (fun at_ fa => post at_ fa towns)) b (zi (nS tp tz 0 9 (i + 1 + 1) + 16 * pos tp tz (i + 1 + 1))) (zA T) (zi what) (zi (tV tp tz (i + 1))) l3 s0 := fun b l3 s0 => ⟨fun _ => p_takeSignF fn (g1 n2 _), fun z => absurd z fn⟩
    rw [wp_X12_readThing_b86]
    exact p_numR (lo := 0) (hi' := 9) hz hf hN1 (by omega) (by omega) (fun z => absurd z n2) (fun _ => ⟨fun _ => p_numF fn fl (last _ _ _), fun _ => last _ _ _⟩)
  have in2 : vp_in (zi ((i + 1 + 1 : Nat) : Int)) 1002 := lt_1002 (N := N) (by omega) hN1
  rw [zA_get (by omega), zL_get (by omega)]
  refine ⟨in2, fun z => ?_, fun z => ⟨in2, fun y => ?_, fun y => ⟨in2, fun x77 e77 => ?_⟩⟩⟩
  · rw [zi_lit, zi_eq (by omega), r1] at z
    exact s2 1 (by rw [nS, if_neg z]) (by decide)
  · rw [zi_lit, zi_eq (by omega), r1] at z
    rw [r2 z, zl_lit, cmp_ge ⟨by omega, by omega⟩ ⟨by omega, by omega⟩] at y
    exact s2 4 (by rw [nS, if_pos z, if_pos (by omega)]) (by decide)
  rw [zi_lit, zi_eq (by omega), r1] at z
  rw [r2 z, zl_lit, cmp_ge ⟨by omega, by omega⟩ ⟨by omega, by omega⟩] at y
  have n2 : nS tp tz 0 9 (i + 1 + 1) = 0 := by rw [nS, if_pos z, if_neg (by omega)]
  have sr := sqA_rng n1 n2
  have sT := hS _ sr.1 (by omega)
  have sB := hs.2.1 _ sr.1 sr.2
  rw [r2 z, zl_narrow (by omega), zi_lit, zi_lit, zi_mul, zi_add, zi_add, show (440 + 10 * tV tp tz (i + 1 + 1) + tV tp tz (i + 1)) = 440 + sqA tp tz (i + 1) by rw [sqA]; omega] at e77
  subst e77
  rw [zA_get (by omega), zi_in (by omega), ← sT, zi_lit, zi_le (by omega)]
  rw [thK, if_neg (fun z => z n1), if_neg (fun z => z n2)] at g1 g1' g0
  refine ⟨by omega, fun q => ?_, fun q => ?_⟩
  rotate_left
  · refine p_wrongR (k := 3) hf hz hN1 (by omega) ?_
    exact ff 3 (i + 1 + 1) _ _ _ (by omega) (by rw [thK, if_neg (fun z => z n1), if_neg (fun z => z n2), if_pos (by omega)])
  have i2 := nS_lt hN (by omega) n2
  rw [if_neg (by omega)] at g1 g1' g0
  have fin : ∀ (j : Nat) (hh : Int32), j ≤ N → (if what = 2 then smK tp tz (i + 1 + 1 + 1) else if nS tp tz 1 99 (i + 1 + 1 + 1) ≠ 0 then (nS tp tz 1 99 (i + 1 + 1 + 1), i + 1 + 1 + 1) else smK tp tz (i + 1 + 1 + 1 + 1)) = smK tp tz j → hh = zi (thH tp tz what i) → wp_X12_readThing_b110 (zL va) (zA pc) (zA so) (fun at_ fa towns => wp_X12_takeSign (zA so) (zL va) (zA pc) at_ fa 59 (fun at_ fa => post at_ fa towns)) (zi j) 0 (zA T) (zi what) (zi (tV tp tz (i + 1))) (zi (tV tp tz (i + 1 + 1))) hh := by
    intro j hh hj ej eh
    rw [ej, smK] at g1' g0
    have a1 : (440 + 10 * tV tp tz (i + 1 + 1) + tV tp tz (i + 1)) = 440 + sqA tp tz (i + 1) := by rw [sqA]; omega
    have a2 : (540 + 10 * tV tp tz (i + 1 + 1) + tV tp tz (i + 1)) = 540 + sqA tp tz (i + 1) := by rw [sqA]; omega
    rw [wp_X12_readThing_b110, eh]
    simp only [forall_eq, zi_lit, zi_mul, zi_add, a1, a2]
    refine ⟨fun z => absurd trivial z, fun _ => ?_⟩
    rw [zi_in (by omega), zi_in (by omega), zA_upd (by omega), zA_upd (by omega)]
    refine ⟨by omega, by omega, ?_⟩
    refine p_takeSignR (c := 59) hf hz hN1 hj (by omega) (by decide) (fun e => ?_) (fun e => ?_)
    · rw [if_pos (show tK tp tz j = 39 from e)] at g0
      exact g0 rfl
    · rw [if_neg (show ¬ tK tp tz j = 39 from e)] at g1'
      exact g1' (show (1 : Int) ≠ 0 by decide) sr _
  rw [wp_X12_readThing_b86]
  refine p_numR (lo := 0) (hi' := 9) hz hf hN1 (by omega) (by omega) (fun _ => ⟨fun w => ?_, fun w => ?_⟩) (fun z => absurd n2 z)
  · rw [zi_lit, zi_eq (by omega)] at w
    refine p_numR (lo := 1) (hi' := 99) hz hf hN1 (by omega) (by omega) (fun n3 => ?_) (fun n3 => ?_)
    · have i3 := nS_lt hN (by omega) n3
      exact fin (i + 1 + 1 + 1 + 1) _ (by omega) (by rw [if_neg w, if_neg (fun z => z n3)]) (by rw [thH, if_neg w])
    · rw [if_neg w, if_pos n3] at g1
      have rg := nS_rng (tp := tp) (tz := tz) (lo := 1) (hi := 99) (i := i + 1 + 1 + 1)
      have fn := flt_ne (tp := tp) hz (k := nS tp tz 1 99 (i + 1 + 1 + 1)) (by omega) (i + 1 + 1 + 1)
      exact ⟨fun _ => p_takeSignF fn (g1 n3 _), fun z => absurd z fn⟩
  · rw [zi_lit, zi_eq (by omega)] at w
    exact fin (i + 1 + 1 + 1) 0 (by omega) (if_pos w) (by rw [thH, if_pos w]; rfl)
end TH
