/-! judged: a told way -/
section JD
variable {tw sh tl : Int → Int} {p m fr : Int}
def whF (tw sh : Int → Int) (p m s w : Int) : Int :=
  if (if w = 4 then s else stp s w) = -1 then 1 else if tw (if w = 4 then s else stp s w) = 1 then 2 else if 119 < m + plen w p then 3 else if w ≠ 4 ∧ sh (100 * (m + plen w p) + (if w = 4 then s else stp s w)) ≠ 0 then 4 else 0
/-- why, how many pieces, the minute, the square -/
def jg (tw sh tl : Int → Int) (p m fr : Int) : Nat → Int × Int × Int × Int
  | 0 => (0, 0, m, fr)
  | n + 1 => if (jg tw sh tl p m fr n).1 ≠ 0 then jg tw sh tl p m fr n else if whF tw sh p (jg tw sh tl p m fr n).2.2.1 (jg tw sh tl p m fr n).2.2.2 (tl n) ≠ 0 then (whF tw sh p (jg tw sh tl p m fr n).2.2.1 (jg tw sh tl p m fr n).2.2.2 (tl n), (jg tw sh tl p m fr n).2.1, (jg tw sh tl p m fr n).2.2.1, (jg tw sh tl p m fr n).2.2.2) else (0, (jg tw sh tl p m fr n).2.1 + 1, (jg tw sh tl p m fr n).2.2.1 + plen (tl n) p, if tl n = 4 then (jg tw sh tl p m fr n).2.2.2 else stp (jg tw sh tl p m fr n).2.2.2 (tl n))
def jp (tw sh tl : Int → Int) (p m fr : Int) : Nat → Int → Int
  | 0 => fun _ => -1
  | n + 1 => if (jg tw sh tl p m fr n).1 = 0 ∧ whF tw sh p (jg tw sh tl p m fr n).2.2.1 (jg tw sh tl p m fr n).2.2.2 (tl n) = 0 then flA (jp tw sh tl p m fr n) (jg tw sh tl p m fr n).2.2.1 ((jg tw sh tl p m fr n).2.2.1 + plen (tl n) p) (jg tw sh tl p m fr n).2.2.2 else jp tw sh tl p m fr n
theorem jg_stay {n : Nat} (h : (jg tw sh tl p m fr n).1 ≠ 0) : jg tw sh tl p m fr (n + 1) = jg tw sh tl p m fr n := by rw [jg, if_pos h]
theorem jg_bad {n : Nat} (h : (jg tw sh tl p m fr n).1 = 0) (h2 : whF tw sh p (jg tw sh tl p m fr n).2.2.1 (jg tw sh tl p m fr n).2.2.2 (tl n) ≠ 0) : jg tw sh tl p m fr (n + 1) = (whF tw sh p (jg tw sh tl p m fr n).2.2.1 (jg tw sh tl p m fr n).2.2.2 (tl n), (jg tw sh tl p m fr n).2.1, (jg tw sh tl p m fr n).2.2.1, (jg tw sh tl p m fr n).2.2.2) := by rw [jg, if_neg (fun z => z h), if_pos h2]
theorem jg_go {n : Nat} (h : (jg tw sh tl p m fr n).1 = 0) (h2 : whF tw sh p (jg tw sh tl p m fr n).2.2.1 (jg tw sh tl p m fr n).2.2.2 (tl n) = 0) : jg tw sh tl p m fr (n + 1) = (0, (jg tw sh tl p m fr n).2.1 + 1, (jg tw sh tl p m fr n).2.2.1 + plen (tl n) p, if tl n = 4 then (jg tw sh tl p m fr n).2.2.2 else stp (jg tw sh tl p m fr n).2.2.2 (tl n)) := by rw [jg, if_neg (fun z => z h), if_neg (fun z => z h2)]
theorem wh_0 {s w mm : Int} (hw : 0 ≤ w ∧ w ≤ 4) (hs : 0 ≤ s ∧ s < 100) (h : whF tw sh p mm s w = 0) : mm + plen w p ≤ 119 ∧ (0 ≤ (if w = 4 then s else stp s w) ∧ (if w = 4 then s else stp s w) < 100) ∧ tw (if w = 4 then s else stp s w) ≠ 1 := by
  have sr := stp_rng (w := w) hs
  simp only [whF] at h
  by_cases q1 : (if w = 4 then s else stp s w) = -1
  · rw [if_pos q1] at h; omega
  · rw [if_neg q1] at h
    by_cases q2 : tw (if w = 4 then s else stp s w) = 1
    · rw [if_pos q2] at h; omega
    · rw [if_neg q2] at h
      by_cases q3 : 119 < mm + plen w p
      · rw [if_pos q3] at h; omega
      · refine ⟨by omega, ?_, q2⟩
        split at q1 <;> split <;> omega
theorem stp_ne {s w : Int} (hs : 0 ≤ s ∧ s < 100) (hw : 0 ≤ w ∧ w < 4) : stp s w ≠ s := by
  simp only [stp]
  split
  next z =>
    rcases (show w = 0 ∨ w = 1 ∨ w = 2 ∨ w = 3 by omega) with rfl | rfl | rfl | rfl <;> simp at z ⊢ <;> omega
  next z => omega
def jI (tw : Int → Int) (m : Int) (q : Int × Int × Int × Int) (P : Int → Int) (n : Nat) : Prop := (m ≤ q.2.2.1 ∧ q.2.2.1 ≤ 119) ∧ (0 ≤ q.2.2.2 ∧ q.2.2.2 < 100) ∧ tw q.2.2.2 ≠ 1 ∧ (0 ≤ q.1 ∧ q.1 ≤ 4) ∧ (0 ≤ q.2.1 ∧ q.2.1 ≤ n) ∧ (q.1 = 0 → q.2.1 = n) ∧ (∀ j, j < m ∨ q.2.2.1 ≤ j → P j = -1) ∧ (∀ j, m ≤ j → j < q.2.2.1 → 0 ≤ P j ∧ P j < 100)
theorem wh_rng {s w mm : Int} : 0 ≤ whF tw sh p mm s w ∧ whF tw sh p mm s w ≤ 4 := by
  simp only [whF]
  split
  · omega
  · split
    · omega
    · split
      · omega
      · split <;> omega
theorem jg_I (hp : 1 ≤ p ∧ p ≤ 3) (hm : 0 ≤ m ∧ m < 120) (hf : 0 ≤ fr ∧ fr < 100) (hfo : tw fr ≠ 1) : ∀ n : Nat, (∀ j, 0 ≤ j → j < (n : Int) → 0 ≤ tl j ∧ tl j ≤ 4) → jI tw m (jg tw sh tl p m fr n) (jp tw sh tl p m fr n) n
  | 0, _ => ⟨⟨Int.le_refl _, by show m ≤ 119; omega⟩, hf, hfo, ⟨Int.le_refl _, (by decide : (0 : Int) ≤ 4)⟩, ⟨Int.le_refl _, Int.le_refl _⟩, fun _ => rfl, fun j _ => rfl, fun j a b => by have : j < m := b; omega⟩
  | n + 1, h => by
    have ih := jg_I hp hm hf hfo n (fun j a b => h j a (by omega))
    have hn := h n (by omega) (by omega)
    have wr := wh_rng (tw := tw) (sh := sh) (p := p) (s := (jg tw sh tl p m fr n).2.2.2) (w := tl n) (mm := (jg tw sh tl p m fr n).2.2.1)
    have pr := plen_rng (w := tl n) hp
    obtain ⟨i1, i2, i3, i4, i5, i6, i7, i8⟩ := ih
    by_cases q : (jg tw sh tl p m fr n).1 = 0
    · by_cases q2 : whF tw sh p (jg tw sh tl p m fr n).2.2.1 (jg tw sh tl p m fr n).2.2.2 (tl n) = 0
      · rw [jp, if_pos ⟨q, q2⟩, jg_go q q2]
        have w0 := wh_0 hn i2 q2
        have i6' := i6 q
        refine ⟨by dsimp only; omega, w0.2.1, w0.2.2, by dsimp only; omega, by dsimp only; omega, fun _ => by dsimp only; omega, fun j hj => ?_, fun j a b => ?_⟩
        · dsimp only at hj
          rw [flA, if_neg (by omega)]
          exact i7 j (by omega)
        · dsimp only at b
          rw [flA]
          split
          · exact i2
          · exact i8 j a (by omega)
      · rw [jp, if_neg (fun z => q2 z.2), jg_bad q q2]
        exact ⟨i1, i2, i3, wr, by dsimp only; omega, fun z => absurd z q2, i7, i8⟩
    · rw [jp, if_neg (fun z => q z.1), jg_stay q]
      exact ⟨i1, i2, i3, i4, by omega, fun z => absurd z q, i7, i8⟩
theorem jp_keep (hp : 1 ≤ p ∧ p ≤ 3) (hm : 0 ≤ m ∧ m < 120) (hf : 0 ≤ fr ∧ fr < 100) (hfo : tw fr ≠ 1) {n : Nat} : ∀ k : Nat, (∀ j, 0 ≤ j → j < ((n + k : Nat) : Int) → 0 ≤ tl j ∧ tl j ≤ 4) → ∀ j, j < (jg tw sh tl p m fr n).2.2.1 → jp tw sh tl p m fr (n + k) j = jp tw sh tl p m fr n j ∧ (jg tw sh tl p m fr n).2.2.1 ≤ (jg tw sh tl p m fr (n + k)).2.2.1
  | 0, _ => fun j _ => ⟨rfl, Int.le_refl _⟩
  | k + 1, h => by
    intro j hj
    have ih := jp_keep hp hm hf hfo (n := n) k (fun j a b => h j a (by omega)) j hj
    have pr := plen_rng (w := tl ((n + k : Nat) : Int)) hp
    rw [← Nat.add_assoc, jp]
    refine ⟨?_, ?_⟩
    · split
      · rw [flA, if_neg (by omega)]; exact ih.1
      · exact ih.1
    · by_cases q : (jg tw sh tl p m fr (n + k)).1 = 0
      · by_cases q2 : whF tw sh p (jg tw sh tl p m fr (n + k)).2.2.1 (jg tw sh tl p m fr (n + k)).2.2.2 (tl ((n + k : Nat) : Int)) = 0
        · rw [jg_go q q2]; dsimp only; omega
        · rw [jg_bad q q2]; exact ih.2
      · rw [jg_stay q]; exact ih.2
/-- where one is in the minutes of a piece -/
theorem jp_at (hp : 1 ≤ p ∧ p ≤ 3) (hm : 0 ≤ m ∧ m < 120) (hf : 0 ≤ fr ∧ fr < 100) (hfo : tw fr ≠ 1) {n T : Nat} (hT : n < T) (h : ∀ j, 0 ≤ j → j < (T : Int) → 0 ≤ tl j ∧ tl j ≤ 4) (q : (jg tw sh tl p m fr n).1 = 0) (q2 : whF tw sh p (jg tw sh tl p m fr n).2.2.1 (jg tw sh tl p m fr n).2.2.2 (tl n) = 0) {j : Int} (a : (jg tw sh tl p m fr n).2.2.1 ≤ j) (b : j < (jg tw sh tl p m fr n).2.2.1 + plen (tl n) p) : jp tw sh tl p m fr T j = (jg tw sh tl p m fr n).2.2.2 := by
  obtain ⟨k, rfl⟩ : ∃ k, T = n + 1 + k := ⟨T - (n + 1), by omega⟩
  have e : (jg tw sh tl p m fr (n + 1)).2.2.1 = (jg tw sh tl p m fr n).2.2.1 + plen (tl n) p := by rw [jg_go q q2]
  rw [(jp_keep hp hm hf hfo (n := n + 1) k (fun j a b => h j a b) j (by omega)).1, jp, if_pos ⟨q, q2⟩, flA, if_pos ⟨a, b⟩]
theorem jp_old (hp : 1 ≤ p ∧ p ≤ 3) (hm : 0 ≤ m ∧ m < 120) (hf : 0 ≤ fr ∧ fr < 100) (hfo : tw fr ≠ 1) {n T : Nat} (hT : n ≤ T) (h : ∀ j, 0 ≤ j → j < (T : Int) → 0 ≤ tl j ∧ tl j ≤ 4) {j : Int} (b : j < (jg tw sh tl p m fr n).2.2.1) : jp tw sh tl p m fr T j = jp tw sh tl p m fr n j := by
  obtain ⟨k, rfl⟩ : ∃ k, T = n + k := ⟨T - n, by omega⟩
  exact (jp_keep hp hm hf hfo (n := n) k (fun j a b => h j a b) j b).1
theorem jp_i (hp : 1 ≤ p ∧ p ≤ 3) (hm : 0 ≤ m ∧ m < 120) (hf : 0 ≤ fr ∧ fr < 100) (hfo : tw fr ≠ 1) {n : Nat} (h : ∀ j, 0 ≤ j → j < (n : Int) → 0 ≤ tl j ∧ tl j ≤ 4) : i32 (jp tw sh tl p m fr n) := fun j => by
  obtain ⟨i1, i2, i3, i4, i5, i6, i7, i8⟩ := jg_I (sh := sh) hp hm hf hfo n h
  by_cases q : m ≤ j ∧ j < (jg tw sh tl p m fr n).2.2.1
  · have := i8 j q.1 q.2; omega
  · rw [i7 j (by omega)]; omega
/-- heat along a path of squares -/
noncomputable def mF (sn P : Int → Int) (ww : Nat → Int64) (mends m : Int) : Nat → Int × Int
  | 0 => (0, 0)
  | i + 1 => (if sn (100 * (m + i) + P (m + i)) = 0 then (if 0 < (if 0 < i ∧ P (m + i) ≠ P (m + i - 1) ∧ watF ww (P (m + i)) = true then 0 else (mF sn P ww mends m i).1) - mends then (if 0 < i ∧ P (m + i) ≠ P (m + i - 1) ∧ watF ww (P (m + i)) = true then 0 else (mF sn P ww mends m i).1) - mends else 0) else (if 0 < i ∧ P (m + i) ≠ P (m + i - 1) ∧ watF ww (P (m + i)) = true then 0 else (mF sn P ww mends m i).1) + 1, if (mF sn P ww mends m i).2 < (if sn (100 * (m + i) + P (m + i)) = 0 then (if 0 < (if 0 < i ∧ P (m + i) ≠ P (m + i - 1) ∧ watF ww (P (m + i)) = true then 0 else (mF sn P ww mends m i).1) - mends then (if 0 < i ∧ P (m + i) ≠ P (m + i - 1) ∧ watF ww (P (m + i)) = true then 0 else (mF sn P ww mends m i).1) - mends else 0) else (if 0 < i ∧ P (m + i) ≠ P (m + i - 1) ∧ watF ww (P (m + i)) = true then 0 else (mF sn P ww mends m i).1) + 1) then (if sn (100 * (m + i) + P (m + i)) = 0 then (if 0 < (if 0 < i ∧ P (m + i) ≠ P (m + i - 1) ∧ watF ww (P (m + i)) = true then 0 else (mF sn P ww mends m i).1) - mends then (if 0 < i ∧ P (m + i) ≠ P (m + i - 1) ∧ watF ww (P (m + i)) = true then 0 else (mF sn P ww mends m i).1) - mends else 0) else (if 0 < i ∧ P (m + i) ≠ P (m + i - 1) ∧ watF ww (P (m + i)) = true then 0 else (mF sn P ww mends m i).1) + 1) else (mF sn P ww mends m i).2)
/-- one minute: what heat there is behind it -/
def ht1 (lit mends h : Int) : Int := if lit = 0 then (if 0 < h - mends then h - mends else 0) else h + 1
def h0F (P : Int → Int) (ww : Nat → Int64) (m : Int) (i : Nat) (h : Int) : Int := if 0 < i ∧ P (m + i) ≠ P (m + i - 1) ∧ watF ww (P (m + i)) = true then 0 else h
theorem mF_s (sn P : Int → Int) (ww : Nat → Int64) (mends m : Int) (i : Nat) : mF sn P ww mends m (i + 1) = (ht1 (sn (100 * (m + i) + P (m + i))) mends (h0F P ww m i (mF sn P ww mends m i).1), if (mF sn P ww mends m i).2 < ht1 (sn (100 * (m + i) + P (m + i))) mends (h0F P ww m i (mF sn P ww mends m i).1) then ht1 (sn (100 * (m + i) + P (m + i))) mends (h0F P ww m i (mF sn P ww mends m i).1) else (mF sn P ww mends m i).2) := rfl
theorem ht1_rng {lit mends h : Int} (hm : 0 ≤ mends) (hh : 0 ≤ h) : 0 ≤ ht1 lit mends h ∧ ht1 lit mends h ≤ h + 1 := by
  simp only [ht1]
  split
  · split <;> omega
  · omega
theorem h0F_rng {P : Int → Int} {ww : Nat → Int64} {m : Int} {i : Nat} {h : Int} (hh : 0 ≤ h) : 0 ≤ h0F P ww m i h ∧ h0F P ww m i h ≤ h := by
  simp only [h0F]
  split <;> omega
theorem mF_rng {sn P : Int → Int} {ww : Nat → Int64} {mends m : Int} (hm : 0 ≤ mends) : ∀ i : Nat, (0 ≤ (mF sn P ww mends m i).1 ∧ (mF sn P ww mends m i).1 ≤ i) ∧ 0 ≤ (mF sn P ww mends m i).2 ∧ (mF sn P ww mends m i).2 ≤ i
  | 0 => ⟨⟨Int.le_refl _, Int.le_refl _⟩, Int.le_refl _, Int.le_refl _⟩
  | i + 1 => by
    have ih := mF_rng (sn := sn) (P := P) (ww := ww) (m := m) hm i
    have a := h0F_rng (P := P) (ww := ww) (m := m) (i := i) ih.1.1
    have b := ht1_rng (lit := sn (100 * (m + i) + P (m + i))) hm a.1
    rw [mF_s]
    dsimp only
    refine ⟨by omega, ?_⟩
    split <;> omega
end JD
