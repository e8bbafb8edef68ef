/-! the fewest steps: the class's queue -/
section BQ
variable {tw nt : Int → Int}
def BF (tw : Int → Int) (fr : Int) (st qu : Int → Int) (size i w : Int) : Prop :=
  (i32 st ∧ i32 qu ∧ 1 ≤ size ∧ size ≤ 100 ∧ 0 ≤ i ∧ i ≤ size) ∧ (∀ j, 0 ≤ j → j < size → (0 ≤ qu j ∧ qu j < 100) ∧ 0 ≤ st (qu j) ∧ st (qu j) ≤ j ∧ spN tw fr (st (qu j)).toNat (qu j)) ∧ (∀ j k, 0 ≤ j → j < size → 0 ≤ k → k < size → qu j = qu k → j = k) ∧ (∀ s, 0 ≤ s → s < 100 → (st s = -1 ∧ ∀ j, 0 ≤ j → j < size → qu j ≠ s) ∨ ∃ j, 0 ≤ j ∧ j < size ∧ qu j = s) ∧ (∀ j k, 0 ≤ j → j ≤ k → k < size → st (qu j) ≤ st (qu k)) ∧ (i < size → ∀ k, 0 ≤ k → k < size → st (qu k) ≤ st (qu i) + 1) ∧ (∀ j b v, 0 ≤ j → j < size → (j < i ∨ (j = i ∧ v < w)) → 0 ≤ v → v < 4 → stp (qu j) v = b → 0 ≤ b → tw b ≠ 1 → 0 ≤ st b ∧ st b ≤ st (qu j) + 1) ∧ qu 0 = fr ∧ st fr = 0
theorem BF_end {fr : Int} (hf : 0 ≤ fr ∧ fr < 100) {st qu : Int → Int} {size : Int} (h : BF tw fr st qu size size 0) : ∀ (n : Nat) (s : Int), spN tw fr n s → 0 ≤ st s ∧ st s ≤ n ∧ spN tw fr (st s).toNat s := by
  obtain ⟨h1, h2, h3, h4, h5, h6, h7, h8, h9⟩ := h
  have key : ∀ s, 0 ≤ s → s < 100 → 0 ≤ st s → ∃ j, 0 ≤ j ∧ j < size ∧ qu j = s := fun s a b c => by
    rcases h4 s a b with x | x
    · omega
    · exact x
  intro n
  induction n with
  | zero =>
    intro s hs
    have e : s = fr := hs
    subst e
    rw [h9]
    exact ⟨by omega, by omega, rfl⟩
  | succ n ih =>
    rintro s ⟨a, ha, w, w0, w1, e, b0, b1⟩
    have ra := spN_rng hf n a ha
    have ia := ih a ha
    obtain ⟨j, j0, j1, je⟩ := key a ra.1 ra.2 ia.1
    have z := h7 j s w j0 j1 (Or.inl j1) w0 w1 (by rw [je]; exact e) b0 b1
    rw [je] at z
    have rs := sp1_rng ra ⟨w, w0, w1, e, b0, b1⟩
    obtain ⟨k, k0, k1, ke⟩ := key s rs.1 rs.2 z.1
    have y := (h2 k k0 k1).2.2.2
    rw [ke] at y
    exact ⟨z.1, by omega, y⟩
theorem p_fewC (hN : ntR nt tw) (hi : i32 nt) {fr to : Int} (hf : 0 ≤ fr ∧ fr < 100) (ht : 0 ≤ to ∧ to < 100) {d : Int} (hd : hopP tw fr to d) {t1 t2 : Nat → Int32} {post : Int32 → (Nat → Int32) → (Nat → Int32) → Prop} (h : ∀ a b, post (zi d) a b) : wp_X6_fewestSteps (zA nt) t1 t2 (zi fr) (zi to) post := by
  obtain ⟨s0, rfl, hs0⟩ := zA_ex t1
  obtain ⟨q0, rfl, hq0⟩ := zA_ex t2
  simp only [wp_X6_fewestSteps]
  refine p_isSquare (by omega) (fun _ => ⟨fun z => absurd z (by decide), fun _ => ?_⟩) (fun q => absurd hf q)
  refine p_isSquare (by omega) (fun _ => ⟨fun _ => ?_, fun z => absurd z (by decide)⟩) (fun q => absurd ht q)
  refine p_fillI (n := 100) (v := -1) (by decide) ?_
  have i1 : i32 (fun k => if 0 ≤ k ∧ k < ((100 : Nat) : Int) then (-1 : Int) else s0 k) := fun k => by
    dsimp only
    split
    · omega
    · exact hs0 k
  simp (disch := omega) only [forall_eq, zi_lit, zi_in, zA_upd]
  refine ⟨by omega, by decide, ?_⟩
  refine lp_ex (fun s' => ∃ (st qu : Int → Int) (size i : Int), s' = (zA st, zA qu, zi to, zi size, zi i) ∧ BF tw fr st qu size i 0) (fun s' => (100 - (s'.2.2.2.2).toInt).toNat) ?_ ⟨upI (fun k => if 0 ≤ k ∧ k < ((100 : Nat) : Int) then (-1 : Int) else s0 k) fr 0, upI q0 0 fr, 1, 0, rfl, ⟨i32_up i1 (by omega), i32_up hq0 (by omega), by omega, by omega, by omega, by omega⟩, ?_, ?_, ?_, ?_, ?_, ?_, upI_s _ _ _, upI_s _ _ _⟩
  case refine_2 =>
    intro j j0 j1
    rw [show j = 0 by omega, upI_s, upI_s]
    exact ⟨hf, by omega, by omega, rfl⟩
  case refine_3 => intro j k _ _ _ _ _; omega
  case refine_4 =>
    intro s a b
    by_cases q : s = fr
    · exact Or.inr ⟨0, by omega, by omega, by rw [upI_s]; exact q.symm⟩
    · refine Or.inl ⟨by rw [upI_n q, if_pos (by omega)], fun j j0 j1 => ?_⟩
      rw [show j = 0 by omega, upI_s]
      exact fun e => q e.symm
  case refine_5 =>
    intro j k j0 jk k1
    rw [show k = 0 by omega, show j = 0 by omega]
    exact Int.le_refl _
  case refine_6 =>
    intro _ k k0 k1
    rw [show k = 0 by omega]
    omega
  case refine_7 => intro j b v j0 j1 hh; omega
  rintro kb s' ⟨st, qu, size, i, rfl, hB⟩ hkb
  obtain ⟨h1, h2, h3, h4, h5, h6, h7, h8, h9⟩ := id hB
  have fin : size ≤ i → vp_in (zi to) 100 ∧ post (zA st (Int32.toNatClampNeg (zi to))) (zA st) (zA qu) := by
    intro z
    have e : i = size := by omega
    subst e
    have y := BF_end hf hB d.toNat to hd.2.1
    have l := hd.2.2 _ y.2.2
    have d0 := hd.1
    rw [zi_in (by omega), zA_get (by omega), show st to = d by omega]
    exact ⟨by omega, h _ _⟩
  simp (disch := omega) only [wp_X6_fewestSteps_L43, zi_lit, zi_le]
  refine ⟨fin, fun z => ⟨fun y => by omega, fun _ => ?_⟩⟩
  refine lp_inv (fun w s' => ∃ (st' qu' : Int → Int) (size' : Int), s' = (zA st', zA qu', zi to, zi size', zi i, zi w) ∧ i < size' ∧ BF tw fr st' qu' size' i w) 4 ?_ ?_ 0 (Nat.zero_le _) ⟨st, qu, size, rfl, by omega, hB⟩
  · rintro s' ⟨st', qu', size', rfl, hlt, hB'⟩ kb2
    obtain ⟨g1, g2, g3, g4, g5, g6, g7, g8, g9⟩ := hB'
    simp (disch := omega) only [wp_X6_fewestSteps_L59, forall_eq, zi_lit, zi_le, zi_add]
    refine ⟨fun _ => ?_, fun u => absurd (by decide) u⟩
    refine hkb _ ⟨st', qu', size', i + 1, rfl, ⟨g1.1, g1.2.1, g1.2.2.1, g1.2.2.2.1, by omega, by omega⟩, g2, g3, g4, g5, fun hl k k0 k1 => ?_, fun j b v j0 j1 hh v0 v1 e b0 b1 => g7 j b v j0 j1 (by omega) v0 v1 e b0 b1, g8, g9⟩ ?_
    · have a := g6 hlt k k0 k1
      have b := g5 i (i + 1) (by omega) (by omega) hl
      omega
    · show (100 - (zi (i + 1)).toInt).toNat < (100 - (zi i).toInt).toNat
      rw [zi_toInt (by omega), zi_toInt (by omega)]
      omega
  rintro w hw s' ⟨st', qu', size', rfl, hlt, hB'⟩ kb2 hkb2
  have hnw : ((w + 1 : Nat) : Int) = (w : Int) + 1 := by omega
  obtain ⟨g1, g2, g3, g4, g5, g6, g7, g8, g9⟩ := id hB'
  have qi := g2 i (by omega) hlt
  have stay : (∀ b, stp (qu' i) w = b → 0 ≤ b → tw b ≠ 1 → 0 ≤ st' b ∧ st' b ≤ st' (qu' i) + 1) → kb2 (zA st', zA qu', zi to, zi size', zi i, zi ((w : Int) + 1)) := by
    intro y
    refine hkb2 _ ⟨st', qu', size', by rw [hnw], hlt, g1, g2, g3, g4, g5, g6, fun j b v j0 j1 hh v0 v1 e b0 b1 => ?_, g8, g9⟩
    by_cases q : j < i ∨ (j = i ∧ v < w)
    · exact g7 j b v j0 j1 q v0 v1 e b0 b1
    · have e2 : j = i := by omega
      have e3 : v = w := by omega
      rw [e2, e3] at e
      rw [e2]
      exact y b e b0 b1
  simp (disch := omega) only [wp_X6_fewestSteps_L59, zi_lit, zi_le, zi_in, zA_get]
  refine ⟨fun u => by omega, fun _ => ⟨by omega, ?_⟩⟩
  refine p_nextTo hN hi qi.1 (by omega) ?_
  by_cases q : stp (qu' i) w = -1 ∨ tw (stp (qu' i) w) = 1
  · rw [if_pos q]
    simp (disch := omega) only [forall_eq, zi_lt, zi_add]
    refine ⟨fun _ => stay (fun b e b0 b1 => ?_), fun u => absurd (by decide) u⟩
    rcases q with q | q
    · omega
    · rw [e] at q; exact absurd q b1
  rw [if_neg q]
  have sr := stp_rng (s := qu' i) (w := w) qi.1
  have sg : 0 ≤ stp (qu' i) w ∧ stp (qu' i) w < 100 := by omega
  have gb := g4 (stp (qu' i) w) sg.1 sg.2
  have ib := g1.1 (stp (qu' i) w)
  simp (disch := omega) only [forall_eq, zi_neg, zi_lt, zi_in, zA_get, zi_eq, zi_le, zi_add, zA_upd]
  refine ⟨fun u => by omega, fun _ => ⟨by omega, fun u => stay (fun b e b0 b1 => ?_), fun u => ⟨fun v => ?_, fun v => ⟨by omega, by omega, by omega, by omega, ?_⟩⟩⟩⟩
  · rcases gb with x | ⟨j, j0, j1, je⟩
    · exact absurd x.1 u
    · have y1 := g2 j j0 j1
      have y2 := g6 hlt j j0 j1
      rw [je] at y1 y2
      rw [← e]
      exact ⟨y1.2.1, y2⟩
  · have e100 : size' = 100 := by omega
    have no : ∀ j, 0 ≤ j → j < size' → qu' j ≠ stp (qu' i) w := by
      rcases gb with x | ⟨j, j0, j1, je⟩
      · exact x.2
      · have y1 := g2 j j0 j1
        rw [je] at y1
        omega
    have := pig 100 101 (fun j => if j = 100 then (stp (qu' i) w).toNat else (qu' j).toNat) (fun j hj => by
      split
      · omega
      · have := g2 j (by omega) (by omega)
        omega) (fun j k hj hk e => by
      by_cases a : j = 100 <;> by_cases b : k = 100
      · omega
      · rw [if_pos a, if_neg b] at e
        have := g2 k (by omega) (by omega)
        have := no k (by omega) (by omega)
        omega
      · rw [if_neg a, if_pos b] at e
        have := g2 j (by omega) (by omega)
        have := no j (by omega) (by omega)
        omega
      · rw [if_neg a, if_neg b] at e
        have x1 := g2 j (by omega) (by omega)
        have x2 := g2 k (by omega) (by omega)
        have := g3 j k (by omega) (by omega) (by omega) (by omega) (by omega)
        omega)
    omega
  have no : ∀ j, 0 ≤ j → j < size' → qu' j ≠ stp (qu' i) w := by
    rcases gb with x | ⟨j, j0, j1, je⟩
    · exact x.2
    · have y1 := g2 j j0 j1
      rw [je] at y1
      omega
  have qo : ∀ j, 0 ≤ j → j < size' → upI qu' size' (stp (qu' i) w) j = qu' j := fun j j0 j1 => upI_n (by omega)
  have so : ∀ j, 0 ≤ j → j < size' → upI st' (stp (qu' i) w) (st' (qu' i) + 1) (qu' j) = st' (qu' j) := fun j j0 j1 => upI_n (no j j0 j1)
  refine hkb2 _ ⟨upI st' (stp (qu' i) w) (st' (qu' i) + 1), upI qu' size' (stp (qu' i) w), size' + 1, by rw [hnw], by omega, ⟨i32_up g1.1 (by omega), i32_up g1.2.1 (by omega), by omega, by omega, by omega, by omega⟩, fun j j0 j1 => ?_, fun j k j0 j1 k0 k1 e => ?_, fun s a b => ?_, fun j k j0 jk k1 => ?_, fun _ k k0 k1 => ?_, fun j b v j0 j1 hh v0 v1 e b0 b1 => ?_, by rw [qo 0 (by omega) (by omega)]; exact g8, ?_⟩
  · by_cases x : j = size'
    · rw [x, upI_s, upI_s]
      refine ⟨sg, by omega, by omega, ?_⟩
      rw [show (st' (qu' i) + 1).toNat = (st' (qu' i)).toNat + 1 by omega]
      exact ⟨qu' i, qi.2.2.2, w, by omega, by omega, rfl, sg.1, fun y => q (Or.inr y)⟩
    · rw [qo j j0 (by omega), so j j0 (by omega)]
      exact g2 j j0 (by omega)
  · by_cases x : j = size' <;> by_cases y : k = size'
    · omega
    · rw [x, upI_s, qo k k0 (by omega)] at e
      exact absurd e.symm (no k k0 (by omega))
    · rw [y, upI_s, qo j j0 (by omega)] at e
      exact absurd e (no j j0 (by omega))
    · rw [qo j j0 (by omega), qo k k0 (by omega)] at e
      exact g3 j k j0 (by omega) k0 (by omega) e
  · by_cases x : s = stp (qu' i) w
    · exact Or.inr ⟨size', by omega, by omega, by rw [upI_s, x]⟩
    · rcases g4 s a b with y | ⟨j, j0, j1, je⟩
      · refine Or.inl ⟨by rw [upI_n x]; exact y.1, fun j j0 j1 => ?_⟩
        by_cases z2 : j = size'
        · rw [z2, upI_s]; exact fun e => x e.symm
        · rw [qo j j0 (by omega)]; exact y.2 j j0 (by omega)
      · exact Or.inr ⟨j, j0, by omega, by rw [qo j j0 j1]; exact je⟩
  · by_cases y : k = size'
    · by_cases x : j = size'
      · rw [x, y]; exact Int.le_refl _
      · rw [y, upI_s, upI_s, qo j j0 (by omega), so j j0 (by omega)]
        exact g6 hlt j j0 (by omega)
    · rw [qo j j0 (by omega), so j j0 (by omega), qo k (by omega) (by omega), so k (by omega) (by omega)]
      exact g5 j k j0 jk (by omega)
  · rw [qo i (by omega) hlt, so i (by omega) hlt]
    by_cases y : k = size'
    · rw [y, upI_s, upI_s]; exact Int.le_refl _
    · rw [qo k k0 (by omega), so k k0 (by omega)]
      exact g6 hlt k k0 (by omega)
  · have jl : j < size' := by omega
    rw [qo j j0 jl] at e
    rw [qo j j0 jl, so j j0 jl]
    by_cases y : b = stp (qu' i) w
    · rw [y, upI_s]
      by_cases x : j < i ∨ (j = i ∧ v < w)
      · have z2 := g7 j b v j0 jl x v0 v1 e b0 b1
        rw [y] at z2
        omega
      · have e2 : j = i := by omega
        rw [e2]
        exact ⟨by omega, Int.le_refl _⟩
    · rw [upI_n y]
      by_cases x : j < i ∨ (j = i ∧ v < w)
      · exact g7 j b v j0 jl x v0 v1 e b0 b1
      · have e2 : j = i := by omega
        have e3 : v = w := by omega
        rw [e2, e3] at e
        exact absurd e.symm y
  · rw [upI_n (fun e => by rw [← e] at u; omega)]
    exact g9
end BQ
