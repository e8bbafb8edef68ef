/-! a line, both sides -/
section LC
variable {tp : Int → Int} {tz : Int} {N : Nat} {so va pc f g h : Int → Int}
theorem smK_0 {j : Nat} (h : (smK tp tz j).1 = 0) : tK tp tz j = 39 ∧ (smK tp tz j).2 = j + 1 := by
  rw [smK] at h ⊢
  by_cases q : tK tp tz j = 39
  · rw [if_pos q]; exact ⟨q, rfl⟩
  · rw [if_neg q] at h; exact absurd h (show (1 : Int) ≠ 0 by decide)
theorem sm_le (hN : pos tp tz N = tz) {i j : Nat} (hj : j ≤ N) (hi : i ≤ j) (h : (smK tp tz j).1 = 0) : i < (smK tp tz j).2 ∧ (smK tp tz j).2 ≤ N := by
  have a := smK_0 h
  have b := tK_lt hN hj (by omega)
  rw [a.2]; omega
theorem thK_0 (hN : pos tp tz N = tz) {S : Int → Int} {what : Int} {i : Nat} (hi : i < N) (h : (thK tp tz S what i).1 = 0) : (0 ≤ sqA tp tz (i + 1) ∧ sqA tp tz (i + 1) < 100) ∧ (0 ≤ thH tp tz what i ∧ thH tp tz what i ≤ 99) ∧ i < (thK tp tz S what i).2 ∧ (thK tp tz S what i).2 ≤ N := by
  rw [thK] at h ⊢
  by_cases n1 : nS tp tz 0 9 (i + 1) ≠ 0
  · rw [if_pos n1] at h; exact absurd h n1
  rw [if_neg n1] at h ⊢
  by_cases n2 : nS tp tz 0 9 (i + 1 + 1) ≠ 0
  · rw [if_pos n2] at h; exact absurd h n2
  rw [if_neg n2] at h ⊢
  have m1 := Decidable.not_not.mp n1
  have m2 := Decidable.not_not.mp n2
  have i1 := nS_lt hN (by omega) m1
  have i2 := nS_lt hN (by omega) m2
  have sr := sqA_rng m1 m2
  by_cases q : S (sqA tp tz (i + 1)) ≠ 0
  · rw [if_pos q] at h; exact absurd h (show (3 : Int) ≠ 0 by decide)
  rw [if_neg q] at h ⊢
  by_cases w : what = 2
  · rw [if_pos w] at h ⊢
    rw [thH, if_pos w]
    exact ⟨sr, by omega, sm_le hN (by omega) (by omega) h⟩
  rw [if_neg w] at h ⊢
  by_cases n3 : nS tp tz 1 99 (i + 1 + 1 + 1) ≠ 0
  · rw [if_pos n3] at h; exact absurd h n3
  rw [if_neg n3] at h ⊢
  have m3 := Decidable.not_not.mp n3
  have i3 := nS_lt hN (by omega) m3
  have v3 : tK tp tz (i + 1 + 1 + 1) = 50 ∧ 1 ≤ tV tp tz (i + 1 + 1 + 1) ∧ tV tp tz (i + 1 + 1 + 1) ≤ 99 := nS_0 m3
  rw [thH, if_neg w]
  exact ⟨sr, by omega, sm_le hN (by omega) (by omega) h⟩
theorem wtK_0 (hN : pos tp tz N = tz) {S : Int → Int} {i : Nat} (hi : i < N) (h : (wtK tp tz S i).1 = 0) : S 424 ≠ 10 ∧ (0 ≤ sqA tp tz (i + 1) ∧ sqA tp tz (i + 1) < 100) ∧ i < (wtK tp tz S i).2 ∧ (wtK tp tz S i).2 ≤ N := by
  rw [wtK] at h ⊢
  by_cases q : S 424 = 10
  · rw [if_pos q] at h; exact absurd h (show (5 : Int) ≠ 0 by decide)
  rw [if_neg q] at h ⊢
  by_cases n1 : nS tp tz 0 9 (i + 1) ≠ 0
  · rw [if_pos n1] at h; exact absurd h n1
  rw [if_neg n1] at h ⊢
  by_cases n2 : nS tp tz 0 9 (i + 1 + 1) ≠ 0
  · rw [if_pos n2] at h; exact absurd h n2
  rw [if_neg n2] at h ⊢
  have m1 := Decidable.not_not.mp n1
  have m2 := Decidable.not_not.mp n2
  have i1 := nS_lt hN (by omega) m1
  have i2 := nS_lt hN (by omega) m2
  exact ⟨q, sqA_rng m1 m2, sm_le hN (by omega) (by omega) h⟩
theorem clK_0 (hN : pos tp tz N = tz) {S : Int → Int} {i : Nat} {k : Int} {j : Nat} (hi : i < N) (hj : i + 1 + 1 + 1 + 1 ≤ N → i + 1 + 1 + 1 + 1 ≤ j ∧ j ≤ N) (h : (clK tp tz S i k j).1 = 0) : S 200 ≠ 20 ∧ (0 ≤ sqA tp tz (i + 1) ∧ sqA tp tz (i + 1) < 100) ∧ i + 1 + 1 + 1 + 1 ≤ N ∧ k = 0 ∧ (clK tp tz S i k j).2 = j + 1 ∧ j + 1 ≤ N ∧ tK tp tz j = 39 := by
  rw [clK] at h ⊢
  by_cases q : S 200 = 20
  · rw [if_pos q] at h; exact absurd h (show (5 : Int) ≠ 0 by decide)
  rw [if_neg q] at h ⊢
  by_cases n1 : nS tp tz 0 9 (i + 1) ≠ 0
  · rw [if_pos n1] at h; exact absurd h n1
  rw [if_neg n1] at h ⊢
  by_cases n2 : nS tp tz 0 9 (i + 1 + 1) ≠ 0
  · rw [if_pos n2] at h; exact absurd h n2
  rw [if_neg n2] at h ⊢
  by_cases n3 : tK tp tz (i + 1 + 1 + 1) ≠ 8
  · rw [if_pos n3] at h; exact absurd h (show (1 : Int) ≠ 0 by decide)
  rw [if_neg n3] at h ⊢
  by_cases n4 : k ≠ 0
  · rw [if_pos n4] at h; exact absurd h n4
  rw [if_neg n4] at h ⊢
  have m1 := Decidable.not_not.mp n1
  have m2 := Decidable.not_not.mp n2
  have i1 := nS_lt hN (by omega) m1
  have i2 := nS_lt hN (by omega) m2
  have i3 := tK_lt hN (i := i + 1 + 1 + 1) (by omega) (by omega)
  have jr := hj (by omega)
  have sm := smK_0 h
  have b := tK_lt hN jr.2 (by omega)
  exact ⟨q, sqA_rng m1 m2, by omega, Decidable.not_not.mp n4, sm.2, by omega, sm.1⟩
theorem suK_0 (hN : pos tp tz N = tz) {S : Int → Int} {i : Nat} (hi : i < N) (h : (suK tp tz S i).1 = 0) : S 261 ≠ 24 ∧ (0 ≤ tV tp tz (i + 1) ∧ tV tp tz (i + 1) ≤ 3) ∧ (0 ≤ tV tp tz (i + 1 + 1 + 1) ∧ tV tp tz (i + 1 + 1 + 1) ≤ 119) ∧ (22 ≤ tK tp tz (i + 1 + 1 + 1 + 1) ∧ tK tp tz (i + 1 + 1 + 1 + 1) ≤ 29) ∧ (1 ≤ tV tp tz (i + 1 + 1 + 1 + 1 + 1) ∧ tV tp tz (i + 1 + 1 + 1 + 1 + 1) ≤ 99) ∧ (1 ≤ tV tp tz (i + 1 + 1 + 1 + 1 + 1 + 1 + 1) ∧ tV tp tz (i + 1 + 1 + 1 + 1 + 1 + 1 + 1) ≤ 99) ∧ i < (suK tp tz S i).2 ∧ (suK tp tz S i).2 ≤ N := by
  rw [suK] at h ⊢
  by_cases q : S 261 = 24
  · rw [if_pos q] at h; exact absurd h (show (5 : Int) ≠ 0 by decide)
  rw [if_neg q] at h ⊢
  by_cases n1 : nS tp tz 0 3 (i + 1) ≠ 0
  · rw [if_pos n1] at h; exact absurd h n1
  rw [if_neg n1] at h ⊢
  have m1 := Decidable.not_not.mp n1
  have i1 := nS_lt hN (by omega) m1
  by_cases n2 : (cS tp tz 9 0 119 (i + 1 + 1)).1 ≠ 0
  · rw [if_pos n2] at h; exact absurd h n2
  rw [if_neg n2] at h ⊢
  have m2 := cS_0 (Decidable.not_not.mp n2)
  have i2 := tK_lt hN (i := i + 1 + 1) (by omega) (by omega)
  have i3 := nS_lt hN (by omega) m2.2
  by_cases n3 : tV tp tz (i + 1 + 1 + 1) ≤ lstS S (tV tp tz (i + 1)) (S 261).toNat
  · rw [if_pos n3] at h; exact absurd h (show (3 : Int) ≠ 0 by decide)
  rw [if_neg n3] at h ⊢
  by_cases n4 : tK tp tz (i + 1 + 1 + 1 + 1) < 22 ∨ 29 < tK tp tz (i + 1 + 1 + 1 + 1)
  · rw [if_pos n4] at h; exact absurd h (show (1 : Int) ≠ 0 by decide)
  rw [if_neg n4] at h ⊢
  have i4 := tK_lt hN (i := i + 1 + 1 + 1 + 1) (by omega) (by omega)
  by_cases n5 : nS tp tz 1 99 (i + 1 + 1 + 1 + 1 + 1) ≠ 0
  · rw [if_pos n5] at h; exact absurd h n5
  rw [if_neg n5] at h ⊢
  have m5 := Decidable.not_not.mp n5
  have i5 := nS_lt hN (by omega) m5
  by_cases n6 : (cS tp tz 10 1 99 (i + 1 + 1 + 1 + 1 + 1 + 1)).1 ≠ 0
  · rw [if_pos n6] at h; exact absurd h n6
  rw [if_neg n6] at h ⊢
  have m6 := cS_0 (Decidable.not_not.mp n6)
  have i6 := tK_lt hN (i := i + 1 + 1 + 1 + 1 + 1 + 1) (by omega) (by omega)
  have i7 := nS_lt hN (by omega) m6.2
  exact ⟨q, (nS_0 m1).2, (nS_0 m2.2).2, by omega, (nS_0 m5).2, (nS_0 m6.2).2, sm_le hN (by omega) (by omega) h⟩
theorem plW_le (hN : pos tp tz N = tz) {i : Nat} (hi : i + 1 < N) : ∀ n, n ≤ 6 → (wkG tp tz i n).1 = 0 → plW i (6 - n) ≤ N → i < (wkG tp tz i n).2 ∧ (wkG tp tz i n).2 ≤ N
  | 0, _, h0, hp => by
    have := plW_lt (i := i) 6
    rw [wkG] at h0 ⊢
    exact sm_le hN hp (by omega) h0
  | n + 1, hn, h0, hp => by
    rw [wkG] at h0 ⊢
    by_cases q : (cS tp tz (11 + ((5 - n : Nat) : Int)) (loW (5 - n)) (hiW (5 - n)) (plW i (5 - n))).1 ≠ 0
    · rw [if_pos q] at h0; exact absurd h0 q
    rw [if_neg q] at h0 ⊢
    have m := cS_0 (Decidable.not_not.mp q)
    rw [show 6 - (n + 1) = 5 - n by omega] at hp
    have j1 := tK_lt hN hp (by omega)
    have j2 := nS_lt hN (by omega) m.2
    refine plW_le hN hi n (by omega) h0 ?_
    rw [show 6 - n = (5 - n) + 1 by omega, plW]; omega
theorem wkK_0 (hN : pos tp tz N = tz) {S : Int → Int} {i : Nat} (hi : i < N) (h : (wkK tp tz S i).1 = 0) : (0 ≤ tV tp tz (i + 1) ∧ tV tp tz (i + 1) ≤ 5) ∧ (∀ t : Nat, t < 6 → nS tp tz (loW t) (hiW t) (plW i t + 1) = 0) ∧ i < (wkK tp tz S i).2 ∧ (wkK tp tz S i).2 ≤ N := by
  rw [wkK] at h ⊢
  by_cases n1 : nS tp tz 0 5 (i + 1) ≠ 0
  · rw [if_pos n1] at h; exact absurd h n1
  rw [if_neg n1] at h ⊢
  have m1 := Decidable.not_not.mp n1
  have i1 := nS_lt hN (by omega) m1
  by_cases n2 : 0 < S (382 + 7 * tV tp tz (i + 1))
  · rw [if_pos n2] at h; exact absurd h (show (3 : Int) ≠ 0 by decide)
  rw [if_neg n2] at h ⊢
  exact ⟨(nS_0 m1).2, fun t ht => wkG_all 6 (by omega) h t (by omega) ht, plW_le hN (by omega) 6 (by omega) h (by show i + 1 + 1 ≤ N; omega)⟩
theorem tk_ne {a b : Int} (hr : (0 ≤ a ∧ a < 1000) ∧ 0 ≤ b ∧ b < 1000) (h : a ≠ b) : ¬ zi a = zi b := by
  rw [zi_eq (by omega)]; exact h
theorem tk_k : (0 ≤ tK tp tz N ∧ tK tp tz N < 1000) := by
  have := tK_rng (tp := tp) (tz := tz) (i := N)
  omega
/-- the reference's line, by its first word -/
theorem p_lineR (hz : 0 ≤ tz ∧ tz ≤ 1000) (hf : flR tp tz (N + 1) so va pc) (hN1 : N ≤ 1000) {i : Nat} (hi : i ≤ N) {T op arg : Nat → Int32} {c : Int32} {P : Int32 → Int32 → Int32 → (Nat → Int32) → (Nat → Int32) → (Nat → Int32) → Prop}
    (h1 : ∀ what : Int, 0 ≤ what ∧ what ≤ 2 → tK tp tz i = what → wp_X12_readThing (zL va) (zA pc) (zA so) (zi i) 0 T (zi what) (fun at_ fa tw => P at_ fa c tw op arg))
    (h2 : ∀ what : Int, what = 3 ∨ what = 4 → tK tp tz i = what → wp_X12_readCloth (zL va) (zA pc) (zA so) wd_30 (zi i) 0 c T op arg (zi what) (fun at_ fa co tw op arg => P at_ fa co tw op arg))
    (h3 : tK tp tz i = 5 → wp_X12_readWater (zL va) (zA pc) (zA so) (zi i) 0 T (fun at_ fa tw => P at_ fa c tw op arg))
    (h4 : tK tp tz i = 6 → wp_X12_readSun (zL va) (zA pc) (zA so) wd_30 (zi i) 0 T (fun at_ fa tw => P at_ fa c tw op arg))
    (h5 : tK tp tz i = 7 → wp_X12_readWalker (zL va) (zA pc) (zA so) wd_30 (zi i) 0 T (fun at_ fa tw => P at_ fa c tw op arg))
    (h6 : tK tp tz i < 0 ∨ 7 < tK tp tz i → P (zi i) (zi (1 + 16 * pos tp tz i)) c T op arg) : wp_X12_readLine (zA so) (zL va) wd_30 (zA pc) (zi i) 0 c T op arg P := by
  have tr := tK_rng (tp := tp) (tz := tz) (i := i)
  have lr := lnW_rng (K := tK tp tz i)
  have ed : lnW (tK tp tz i) = if 0 ≤ tK tp tz i ∧ tK tp tz i ≤ 4 then tK tp tz i else if tK tp tz i = 6 ∨ tK tp tz i = 7 then tK tp tz i - 1 else -1 := rfl
  rw [wp_X12_readLine]
  refine p_lnLoop hf hN1 hi ?_
  refine p_isWordR (w := 29) hf hN1 hi (by omega) (fun q => ⟨fun z => absurd z (by decide), fun _ => h3 q⟩) (fun q => ⟨fun _ => ?_, fun z => absurd rfl z⟩)
  have q5 : tK tp tz i ≠ 5 := q
  refine ⟨fun z => ⟨fun y => ⟨fun x => ⟨fun w => ?_, fun w => ?_⟩, fun x => ?_⟩, fun y => ?_⟩, fun z => ?_⟩
  · rw [zi_lit, zi_eq (by omega)] at w
    rw [zi_lit, zi_lt (by omega)] at x
    refine h5 ?_
    by_cases a : 0 ≤ tK tp tz i ∧ tK tp tz i ≤ 4
    · rw [if_pos a] at ed; omega
    · rw [if_neg a] at ed
      by_cases b : tK tp tz i = 6 ∨ tK tp tz i = 7
      · rw [if_pos b] at ed; omega
      · rw [if_neg b] at ed; omega
  · rw [zi_lit, zi_eq (by omega)] at w
    refine h4 ?_
    by_cases a : 0 ≤ tK tp tz i ∧ tK tp tz i ≤ 4
    · rw [if_pos a] at ed; omega
    · rw [if_neg a] at ed
      by_cases b : tK tp tz i = 6 ∨ tK tp tz i = 7
      · rw [if_pos b] at ed; omega
      · rw [if_neg b] at ed; omega
  · rw [zi_lit, zi_lt (by omega)] at x
    rw [zi_lit, zi_lt (by omega)] at y
    have e : tK tp tz i = lnW (tK tp tz i) := by
      by_cases a : 0 ≤ tK tp tz i ∧ tK tp tz i ≤ 4
      · rw [if_pos a] at ed; exact ed.symm
      · rw [if_neg a] at ed
        by_cases b : tK tp tz i = 6 ∨ tK tp tz i = 7
        · rw [if_pos b] at ed; omega
        · rw [if_neg b] at ed; omega
    exact h2 _ (by omega) e
  · rw [zi_lit, zi_lt (by omega)] at y
    rw [zi_lit, zi_le (by omega)] at z
    have e : tK tp tz i = lnW (tK tp tz i) := by
      by_cases a : 0 ≤ tK tp tz i ∧ tK tp tz i ≤ 4
      · rw [if_pos a] at ed; exact ed.symm
      · rw [if_neg a] at ed
        by_cases b : tK tp tz i = 6 ∨ tK tp tz i = 7
        · rw [if_pos b] at ed; omega
        · rw [if_neg b] at ed; omega
    exact h1 _ (by omega) e
  · rw [zi_lit, zi_le (by omega)] at z
    refine p_wrongR (k := 1) hf hz hN1 hi (h6 ?_)
    by_cases a : 0 ≤ tK tp tz i ∧ tK tp tz i ≤ 4
    · rw [if_pos a] at ed; omega
    · rw [if_neg a] at ed
      by_cases b : tK tp tz i = 6 ∨ tK tp tz i = 7
      · rw [if_pos b] at ed; omega
      · omega
end LC
