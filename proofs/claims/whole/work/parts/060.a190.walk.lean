/-! a line of a walker -/
section WK
variable {tp : Int → Int} {tz : Int} {N : Nat} {f g h : Int → Int}
def loW (t : Nat) : Int := if t < 3 then 1 else 0
def hiW (t : Nat) : Int := if t = 0 then 3 else if t = 3 then 9999 else 99
def plW (i : Nat) : Nat → Nat
  | 0 => i + 1 + 1
  | t + 1 => plW i t + 1 + 1
theorem plW_lt {i : Nat} : ∀ t, i + 1 + 1 ≤ plW i t
  | 0 => by rw [plW]; omega
  | t + 1 => by
    have := plW_lt (i := i) t
    rw [plW]; omega
/-- the last n of the six clauses, then the sign -/
def wkG (tp : Int → Int) (tz : Int) (i : Nat) : Nat → Int × Nat
  | 0 => smK tp tz (plW i 6)
  | n + 1 => if (cS tp tz (11 + ((5 - n : Nat) : Int)) (loW (5 - n)) (hiW (5 - n)) (plW i (5 - n))).1 ≠ 0 then cS tp tz (11 + ((5 - n : Nat) : Int)) (loW (5 - n)) (hiW (5 - n)) (plW i (5 - n)) else wkG tp tz i n
def wkK (tp : Int → Int) (tz : Int) (S : Int → Int) (i : Nat) : Int × Nat := if nS tp tz 0 5 (i + 1) ≠ 0 then (nS tp tz 0 5 (i + 1), i + 1) else if 0 < S (382 + 7 * tV tp tz (i + 1)) then (3, i + 1) else wkG tp tz i 6
abbrev wkO (tp : Int → Int) (tz : Int) (i : Nat) : va_E := ob 10 [.int (zi (tV tp tz (i + 1 + 1 + 1))), .int (zi (tV tp tz (i + 1 + 1 + 1 + 1 + 1))), .int (zi (tV tp tz (i + 1 + 1 + 1 + 1 + 1 + 1 + 1))), .int (zi (tV tp tz (i + 1 + 1 + 1 + 1 + 1 + 1 + 1 + 1 + 1))), .int (zi (tV tp tz (i + 1 + 1 + 1 + 1 + 1 + 1 + 1 + 1 + 1 + 1 + 1))), .int (zi (tV tp tz (i + 1 + 1 + 1 + 1 + 1 + 1 + 1 + 1 + 1 + 1 + 1 + 1 + 1)))]
theorem wkG_all {i : Nat} : ∀ n, n ≤ 6 → (wkG tp tz i n).1 = 0 → ∀ t, 6 - n ≤ t → t < 6 → nS tp tz (loW t) (hiW t) (plW i t + 1) = 0
  | 0, _, _, t, h1, h2 => by omega
  | n + 1, hn, h0, t, h1, h2 => by
    rw [wkG] at h0
    by_cases q : (cS tp tz (11 + ((5 - n : Nat) : Int)) (loW (5 - n)) (hiW (5 - n)) (plW i (5 - n))).1 ≠ 0
    · rw [if_pos q] at h0; exact absurd h0 q
    rw [if_neg q] at h0
    by_cases e : t = 5 - n
    · rw [e]; exact (cS_0 (Decidable.not_not.mp q)).2
    · exact wkG_all n (by omega) h0 t (by omega) h2
theorem p_walkC (hz : 0 ≤ tz ∧ tz ≤ 1000) (hf : flC tp tz (N + 1) f g h) (hN : pos tp tz N = tz) (hN1 : N ≤ 1000) {i : Nat} (hi : i < N) {S : Int → Int} {pl : Pool} {wks : Nat → Option Nat} (hwk : wkR2 pl S wks) {num np fa : Int32} {tok val pla : Int32} {post : Int32 → Int32 → Int32 → Int32 → Int32 → Int32 → Int32 → Int32 → (Nat → Option Nat) → Pool → Prop}
    (g1 : (wkK tp tz S i).1 ≠ 0 → ∀ a b c d e e2 w' p', (∀ z ∈ pl, z ∈ p') → post 0 a b c d e e2 (zi ((wkK tp tz S i).1 + 16 * pos tp tz (wkK tp tz S i).2)) w' p')
    (g0 : (wkK tp tz S i).1 = 0 → (0 ≤ tV tp tz (i + 1) ∧ tV tp tz (i + 1) ≤ 5) → ¬ 0 < S (382 + 7 * tV tp tz (i + 1)) → ((wkK tp tz S i).2 ≤ N ∧ i < (wkK tp tz S i).2) → ∀ (q : Nat) e e2, post 1 (zi (((wkK tp tz S i).2 + 1 : Nat) : Int)) (zi (tK tp tz (wkK tp tz S i).2)) (zi (tV tp tz (wkK tp tz S i).2)) (zi (pos tp tz (wkK tp tz S i).2)) e e2 fa (va_up wks (tV tp tz (i + 1)).toNat (some q)) ((q, wkO tp tz i) :: pl)) : wp_X4_readWalker (sz N) (sz N) (zA g) (sz N) (zi tz) (zA h) (zA f) (zi ((i + 1 : Nat) : Int)) tok val pla num np fa wks pl post := by
  rw [wp_X4_readWalker]
  refine p_advC hf hN1 (by omega) ?_
  refine p_numC (i := i + 1) (lo := 0) (hi' := 5) hz hf hN hN1 (by omega) (by omega) (fun n1 => ⟨fun _ => ?_, fun z => absurd z (by decide)⟩) (fun n1 => ⟨fun z => absurd rfl z, fun _ => ?_⟩)
  rotate_left
  · rw [wkK, if_pos n1] at g1
    exact g1 n1 _ _ _ _ _ _ _ _ (fun _ z => z)
  have i1 := nS_lt hN (by omega) n1
  have v1 := (nS_0 n1).2
  rw [wkK, if_neg (fun z => z n1)] at g1 g0
  have hw := hwk (tV tp tz (i + 1)) v1.1 (by omega)
  have en : nI 6 = zi 6 := rfl
  rw [zi_lit, zi_lt (by omega), en, zi_le (by omega), zi_in (by omega), zi_cl (by omega)]
  refine ⟨fun z => by omega, fun _ => ⟨fun z => by omega, fun _ => ⟨by omega, fun x44 e44 => ⟨fun none44 q58 => ?_, fun q45 e45 => ?_⟩⟩⟩⟩
  rotate_left
  · have pp : 0 < S (382 + 7 * tV tp tz (i + 1)) := by
      by_cases z : 0 < S (382 + 7 * tV tp tz (i + 1))
      · exact z
      · have := hw.1 z
        rw [← e44, e45] at this
        exact absurd this (by simp)
    rw [if_pos pp] at g1
    rw [wp_X4_readWalker_b48, wp_X4_wrong, forall_eq, show (3 : Int32) + 16 * zi (pos tp tz (i + 1)) = _ from flt_c 3 _]
    exact ⟨Or.inl rfl, g1 (show (3 : Int) ≠ 0 by decide) _ _ _ _ _ _ _ _ (fun _ z => z)⟩
  have np' : ¬ 0 < S (382 + 7 * tV tp tz (i + 1)) := by
    intro z
    obtain ⟨q, e, _⟩ := hw.2 z
    rw [← e44, none44] at e
    exact absurd e (by simp)
  rw [if_neg np'] at g1 g0
  have inw : vp_in (zi (tV tp tz (i + 1))) 6 := by rw [zi_in (by omega)]; omega
  have clw : Int32.toNatClampNeg (zi (tV tp tz (i + 1))) = (tV tp tz (i + 1)).toNat := zi_cl (by omega)
  -- the rest behind a clause that is wrong
  have b225 : ∀ (k : Int) (j : Nat), (∀ a b c d e e2 w' p', (∀ z ∈ pl, z ∈ p') → post 0 a b c d e e2 (zi (k + 16 * pos tp tz j)) w' p') → ∀ (ah to va pla nu np : Int32) (x1 x2 x3 x4 x5 x6 : Int32), wp_X4_readWalker_b225 (sz N) (sz N) (zA g) (sz N) (zi tz) (zA h) (zA f) post ah to va pla nu np (zi (k + 16 * pos tp tz j)) wks pl q58 x1 x2 x3 x4 x5 x6 (zi (tV tp tz (i + 1))) 0 := fun k j hp ah to va pla nu np x1 x2 x3 x4 x5 x6 => ⟨inw, fun w' _ => ⟨fun _ => hp _ _ _ _ _ _ _ _ (fun z hz => List.mem_cons_of_mem _ hz), fun z => absurd rfl z⟩⟩
  have b195 : ∀ (k : Int) (j : Nat), (∀ a b c d e e2 w' p', (∀ z ∈ pl, z ∈ p') → post 0 a b c d e e2 (zi (k + 16 * pos tp tz j)) w' p') → ∀ (ah to va pla nu np : Int32) (x1 x2 x3 x4 x5 x6 : Int32), wp_X4_readWalker_b195 (sz N) (sz N) (zA g) (sz N) (zi tz) (zA h) (zA f) post ah to va pla nu np (zi (k + 16 * pos tp tz j)) wks pl q58 x1 x2 x3 x4 x5 x6 (zi (tV tp tz (i + 1))) 0 := fun k j hp ah to va pla nu np x1 x2 x3 x4 x5 x6 => ⟨fun _ => b225 k j hp _ _ _ _ _ _ _ _ _ _ _ _, fun z => absurd rfl z⟩
  have b165 : ∀ (k : Int) (j : Nat), (∀ a b c d e e2 w' p', (∀ z ∈ pl, z ∈ p') → post 0 a b c d e e2 (zi (k + 16 * pos tp tz j)) w' p') → ∀ (ah to va pla nu np : Int32) (x1 x2 x3 x4 x5 x6 : Int32), wp_X4_readWalker_b165 (sz N) (sz N) (zA g) (sz N) (zi tz) (zA h) (zA f) post ah to va pla nu np (zi (k + 16 * pos tp tz j)) wks pl q58 x1 x2 x3 x4 x5 x6 (zi (tV tp tz (i + 1))) 0 := fun k j hp ah to va pla nu np x1 x2 x3 x4 x5 x6 => ⟨fun _ => b195 k j hp _ _ _ _ _ _ _ _ _ _ _ _, fun z => absurd rfl z⟩
  have b134 : ∀ (k : Int) (j : Nat), (∀ a b c d e e2 w' p', (∀ z ∈ pl, z ∈ p') → post 0 a b c d e e2 (zi (k + 16 * pos tp tz j)) w' p') → ∀ (ah to va pla nu np : Int32) (x1 x2 x3 x4 x5 x6 : Int32), wp_X4_readWalker_b134 (sz N) (sz N) (zA g) (sz N) (zi tz) (zA h) (zA f) post ah to va pla nu np (zi (k + 16 * pos tp tz j)) wks pl q58 x1 x2 x3 x4 x5 x6 (zi (tV tp tz (i + 1))) 0 := fun k j hp ah to va pla nu np x1 x2 x3 x4 x5 x6 => ⟨fun _ => b165 k j hp _ _ _ _ _ _ _ _ _ _ _ _, fun z => absurd rfl z⟩
  have b104 : ∀ (k : Int) (j : Nat), (∀ a b c d e e2 w' p', (∀ z ∈ pl, z ∈ p') → post 0 a b c d e e2 (zi (k + 16 * pos tp tz j)) w' p') → ∀ (ah to va pla nu np : Int32) (x1 x2 x3 x4 x5 x6 : Int32), wp_X4_readWalker_b104 (sz N) (sz N) (zA g) (sz N) (zi tz) (zA h) (zA f) post ah to va pla nu np (zi (k + 16 * pos tp tz j)) wks pl q58 x1 x2 x3 x4 x5 x6 (zi (tV tp tz (i + 1))) 0 := fun k j hp ah to va pla nu np x1 x2 x3 x4 x5 x6 => ⟨fun _ => b134 k j hp _ _ _ _ _ _ _ _ _ _ _ _, fun z => absurd rfl z⟩
  have e6 : wkG tp tz i 6 = if (cS tp tz 11 1 3 (i + 1 + 1)).1 ≠ 0 then cS tp tz 11 1 3 (i + 1 + 1) else wkG tp tz i 5 := rfl
  have e5 : wkG tp tz i 5 = if (cS tp tz 12 1 99 (i + 1 + 1 + 1 + 1)).1 ≠ 0 then cS tp tz 12 1 99 (i + 1 + 1 + 1 + 1) else wkG tp tz i 4 := rfl
  have e4 : wkG tp tz i 4 = if (cS tp tz 13 1 99 (i + 1 + 1 + 1 + 1 + 1 + 1)).1 ≠ 0 then cS tp tz 13 1 99 (i + 1 + 1 + 1 + 1 + 1 + 1) else wkG tp tz i 3 := rfl
  have e3 : wkG tp tz i 3 = if (cS tp tz 14 0 9999 (i + 1 + 1 + 1 + 1 + 1 + 1 + 1 + 1)).1 ≠ 0 then cS tp tz 14 0 9999 (i + 1 + 1 + 1 + 1 + 1 + 1 + 1 + 1) else wkG tp tz i 2 := rfl
  have e2 : wkG tp tz i 2 = if (cS tp tz 15 0 99 (i + 1 + 1 + 1 + 1 + 1 + 1 + 1 + 1 + 1 + 1)).1 ≠ 0 then cS tp tz 15 0 99 (i + 1 + 1 + 1 + 1 + 1 + 1 + 1 + 1 + 1 + 1) else wkG tp tz i 1 := rfl
  have e1 : wkG tp tz i 1 = if (cS tp tz 16 0 99 (i + 1 + 1 + 1 + 1 + 1 + 1 + 1 + 1 + 1 + 1 + 1 + 1)).1 ≠ 0 then cS tp tz 16 0 99 (i + 1 + 1 + 1 + 1 + 1 + 1 + 1 + 1 + 1 + 1 + 1 + 1) else wkG tp tz i 0 := rfl
  have e0 : wkG tp tz i 0 = smK tp tz (i + 1 + 1 + 1 + 1 + 1 + 1 + 1 + 1 + 1 + 1 + 1 + 1 + 1 + 1) := rfl
  rw [e6] at g1 g0
  refine p_clauseC (i := i + 1 + 1) (q := 11) (lo := 1) (hi' := 3) hz hf hN hN1 (by omega) (by omega) (by omega) (fun c2 i3 => ⟨fun z => absurd z (by decide), fun _ => ?_⟩) (fun c2 a b c d => ⟨fun _ => ?_, fun z => absurd rfl z⟩)
  rotate_left
  · rw [if_pos c2] at g1
    exact b104 _ _ (g1 c2) _ _ _ _ _ _ _ _ _ _ _ _
  rw [if_neg (fun z => z c2), e5] at g1 g0
  refine p_clauseC (i := i + 1 + 1 + 1 + 1) (q := 12) (lo := 1) (hi' := 99) hz hf hN hN1 (by omega) (by omega) (by omega) (fun c4 i5 => ⟨fun z => absurd z (by decide), fun _ => ?_⟩) (fun c4 a b c d => ⟨fun _ => ?_, fun z => absurd rfl z⟩)
  rotate_left
  · rw [if_pos c4] at g1
    exact b104 _ _ (g1 c4) _ _ _ _ _ _ _ _ _ _ _ _
  rw [if_neg (fun z => z c4), e4] at g1 g0
  refine ⟨fun z => absurd z (by decide), fun _ => ?_⟩
  refine p_clauseC (i := i + 1 + 1 + 1 + 1 + 1 + 1) (q := 13) (lo := 1) (hi' := 99) hz hf hN hN1 (by omega) (by omega) (by omega) (fun c6 i7 => ⟨fun z => absurd z (by decide), fun _ => ?_⟩) (fun c6 a b c d => ⟨fun _ => ?_, fun z => absurd rfl z⟩)
  rotate_left
  · rw [if_pos c6] at g1
    exact b134 _ _ (g1 c6) _ _ _ _ _ _ _ _ _ _ _ _
  rw [if_neg (fun z => z c6), e3] at g1 g0
  refine ⟨fun z => absurd z (by decide), fun _ => ?_⟩
  refine p_clauseC (i := i + 1 + 1 + 1 + 1 + 1 + 1 + 1 + 1) (q := 14) (lo := 0) (hi' := 9999) hz hf hN hN1 (by omega) (by omega) (by omega) (fun c8 i9 => ⟨fun z => absurd z (by decide), fun _ => ?_⟩) (fun c8 a b c d => ⟨fun _ => ?_, fun z => absurd rfl z⟩)
  rotate_left
  · rw [if_pos c8] at g1
    exact b165 _ _ (g1 c8) _ _ _ _ _ _ _ _ _ _ _ _
  rw [if_neg (fun z => z c8), e2] at g1 g0
  refine ⟨fun z => absurd z (by decide), fun _ => ?_⟩
  refine p_clauseC (i := i + 1 + 1 + 1 + 1 + 1 + 1 + 1 + 1 + 1 + 1) (q := 15) (lo := 0) (hi' := 99) hz hf hN hN1 (by omega) (by omega) (by omega) (fun cA iB => ⟨fun z => absurd z (by decide), fun _ => ?_⟩) (fun cA a b c d => ⟨fun _ => ?_, fun z => absurd rfl z⟩)
  rotate_left
  · rw [if_pos cA] at g1
    exact b195 _ _ (g1 cA) _ _ _ _ _ _ _ _ _ _ _ _
  rw [if_neg (fun z => z cA), e1] at g1 g0
  refine ⟨fun z => absurd z (by decide), fun _ => ?_⟩
  refine p_clauseC (i := i + 1 + 1 + 1 + 1 + 1 + 1 + 1 + 1 + 1 + 1 + 1 + 1) (q := 16) (lo := 0) (hi' := 99) hz hf hN hN1 (by omega) (by omega) (by omega) (fun cC iD => ⟨fun z => absurd z (by decide), fun _ => ?_⟩) (fun cC a b c d => ⟨fun _ => ?_, fun z => absurd rfl z⟩)
  rotate_left
  · rw [if_pos cC] at g1
    exact b225 _ _ (g1 cC) _ _ _ _ _ _ _ _ _ _ _ _
  rw [if_neg (fun z => z cC), e0, smK] at g1 g0
  refine ⟨inw, fun w' ew => ⟨fun z => absurd z (by decide), fun _ => ?_⟩⟩
  rw [clw] at ew
  subst ew
  refine p_expC (i := i + 1 + 1 + 1 + 1 + 1 + 1 + 1 + 1 + 1 + 1 + 1 + 1 + 1 + 1) (q := 39) hf hN hN1 (by omega) (by omega) (fun e => ⟨fun z => absurd z (by decide), fun _ => ?_⟩) (fun e => ⟨fun _ => ?_, fun z => absurd rfl z⟩)
  · rw [if_pos (show tK tp tz (i + 1 + 1 + 1 + 1 + 1 + 1 + 1 + 1 + 1 + 1 + 1 + 1 + 1 + 1) = 39 from e)] at g0
    have iE := tK_lt hN (i := i + 1 + 1 + 1 + 1 + 1 + 1 + 1 + 1 + 1 + 1 + 1 + 1 + 1 + 1) (by omega) (fun z => by rw [show tK tp tz (i + 1 + 1 + 1 + 1 + 1 + 1 + 1 + 1 + 1 + 1 + 1 + 1 + 1 + 1) = 39 from e] at z; exact absurd z (by decide))
    exact g0 rfl v1 np' ⟨by omega, by omega⟩ q58 _ _
  · rw [if_neg (show ¬ tK tp tz (i + 1 + 1 + 1 + 1 + 1 + 1 + 1 + 1 + 1 + 1 + 1 + 1 + 1 + 1) = 39 from e)] at g1
    exact g1 (show (1 : Int) ≠ 0 by decide) _ _ _ _ _ _ _ _ (fun z hz => List.mem_cons_of_mem _ hz)
end WK
