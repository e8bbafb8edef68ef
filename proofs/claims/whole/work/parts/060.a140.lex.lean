/-! the tape's tokens, as functions of the tape -/
def lB (c : Int) : Bool := decide (97 ≤ c ∧ c ≤ 122)
def dgB (c : Int) : Bool := decide (48 ≤ c ∧ c ≤ 57)
def bB (c : Int) : Bool := decide (c = 10 ∨ c = 32)
theorem lB_t {c : Int} : lB c = true ↔ (97 ≤ c ∧ c ≤ 122) := by rw [lB, decide_eq_true_iff]
theorem gB_t {c : Int} : dgB c = true ↔ (48 ≤ c ∧ c ≤ 57) := by rw [dgB, decide_eq_true_iff]
theorem bB_t {c : Int} : bB c = true ↔ (c = 10 ∨ c = 32) := by rw [bB, decide_eq_true_iff]
def rnE (p : Int → Bool) (tp : Int → Int) : Nat → Int → Int
  | 0, k => k
  | n + 1, k => if p (tp k) = true then rnE p tp n (k + 1) else k
def rE (p : Int → Bool) (tp : Int → Int) (tz k : Int) : Int := rnE p tp (tz - k).toNat k
theorem rnE_rng {p : Int → Bool} {tp : Int → Int} : ∀ (n : Nat) (k : Int), k ≤ rnE p tp n k ∧ rnE p tp n k ≤ k + n
  | 0, k => by rw [rnE]; omega
  | n + 1, k => by
    rw [rnE]
    by_cases h : p (tp k) = true
    · rw [if_pos h]; have := rnE_rng (p := p) (tp := tp) n (k + 1); omega
    · rw [if_neg h]; omega
theorem rE_rng {p : Int → Bool} {tp : Int → Int} {tz k : Int} (h : k ≤ tz) : k ≤ rE p tp tz k ∧ rE p tp tz k ≤ tz := by
  have := rnE_rng (p := p) (tp := tp) (tz - k).toNat k
  rw [rE]; omega
theorem rE_z {p : Int → Bool} {tp : Int → Int} {tz k : Int} (h : tz ≤ k) : rE p tp tz k = k := by
  have : (tz - k).toNat = 0 := by omega
  rw [rE, this, rnE]
theorem rE_s {p : Int → Bool} {tp : Int → Int} {tz k : Int} (h : k < tz) (q : p (tp k) = true) : rE p tp tz k = rE p tp tz (k + 1) := by
  have : (tz - k).toNat = (tz - (k + 1)).toNat + 1 := by omega
  rw [rE, rE, this, rnE, if_pos q]
theorem rE_e {p : Int → Bool} {tp : Int → Int} {tz k : Int} (q : ¬ p (tp k) = true) : rE p tp tz k = k := by
  rw [rE]
  cases (tz - k).toNat with
  | zero => rw [rnE]
  | succ n => rw [rnE, if_neg q]
theorem rnE_run {p : Int → Bool} {tp : Int → Int} : ∀ (n : Nat) (k j : Int), k ≤ j → j < rnE p tp n k → p (tp j) = true
  | 0, k, j, a, b => by rw [rnE] at b; omega
  | n + 1, k, j, a, b => by
    rw [rnE] at b
    by_cases h : p (tp k) = true
    · rw [if_pos h] at b
      by_cases e : j = k
      · rw [e]; exact h
      · exact rnE_run n (k + 1) j (by omega) b
    · rw [if_neg h] at b; omega
theorem rE_run {p : Int → Bool} {tp : Int → Int} {tz k j : Int} (a : k ≤ j) (b : j < rE p tp tz k) : p (tp j) = true := rnE_run _ k j a b
theorem rnE_at {p : Int → Bool} {tp : Int → Int} : ∀ (n : Nat) (k : Int), rnE p tp n k < k + n → ¬ p (tp (rnE p tp n k)) = true
  | 0, k, b => by rw [rnE] at b; omega
  | n + 1, k, b => by
    rw [rnE] at b ⊢
    by_cases h : p (tp k) = true
    · rw [if_pos h] at b ⊢
      exact rnE_at n (k + 1) (by omega)
    · rw [if_neg h]; exact h
theorem rE_at {p : Int → Bool} {tp : Int → Int} {tz k : Int} (hk : k ≤ tz) (b : rE p tp tz k < tz) : ¬ p (tp (rE p tp tz k)) = true := rnE_at _ k (by rw [rE] at b; omega)
/-- letters of the tape -/
def ltr (tp : Int → Int) : Int → Nat → List Int
  | _, 0 => []
  | k, n + 1 => tp k :: ltr tp (k + 1) n
theorem ltr_snoc {tp : Int → Int} : ∀ (n : Nat) (k : Int), ltr tp k (n + 1) = ltr tp k n ++ [tp (k + n)]
  | 0, k => by simp [ltr]
  | n + 1, k => by
    rw [ltr, ltr_snoc n (k + 1), ltr]
    have : k + 1 + (n : Int) = k + ((n + 1 : Nat) : Int) := by omega
    rw [this]; rfl
theorem ltr_len {tp : Int → Int} : ∀ (n : Nat) (k : Int), (ltr tp k n).length = n
  | 0, k => rfl
  | n + 1, k => by rw [ltr, List.length_cons, ltr_len n]
theorem ltr_mem {tp : Int → Int} : ∀ (n : Nat) (k c : Int), c ∈ ltr tp k n → ∃ j, k ≤ j ∧ j < k + n ∧ c = tp j
  | 0, k, c, h => by simp [ltr] at h
  | n + 1, k, c, h => by
    rw [ltr, List.mem_cons] at h
    rcases h with h | h
    · exact ⟨k, by omega, by omega, h⟩
    · obtain ⟨j, a, b, e⟩ := ltr_mem n (k + 1) c h
      exact ⟨j, by omega, by omega, e⟩
/-- the words, in the order of the class's tokens -/
def wds : List (List Int) := [[104, 111, 117, 115, 101], [116, 114, 101, 101], [97, 114, 99, 97, 100, 101], [97, 119, 110, 105, 110, 103], [115, 104, 117, 116], [119, 97, 116, 101, 114], [115, 117, 110], [119, 97, 108, 107, 101, 114], [119, 104, 101, 110], [102, 114, 111, 109], [111, 118, 101, 114], [112, 97, 99, 101], [98, 101, 97, 114, 115], [109, 101, 110, 100, 115], [105, 99, 101], [104, 111, 116], [99, 111, 111, 108], [97, 110, 100], [111, 114], [110, 111, 116], [109, 105, 110, 117, 116, 101], [100, 97, 121], [110, 111, 114, 116, 104], [110, 111, 114, 116, 104, 101, 97, 115, 116], [101, 97, 115, 116], [115, 111, 117, 116, 104, 101, 97, 115, 116], [115, 111, 117, 116, 104], [115, 111, 117, 116, 104, 119, 101, 115, 116], [119, 101, 115, 116], [110, 111, 114, 116, 104, 119, 101, 115, 116]]
def fI (L : List Int) : List (List Int) → Int → Int
  | [], _ => 52
  | a :: r, w => if L = a then w else fI L r (w + 1)
theorem fI_rng {L : List Int} : ∀ (W : List (List Int)) (w : Int), fI L W w = 52 ∨ (w ≤ fI L W w ∧ fI L W w < w + W.length)
  | [], w => Or.inl rfl
  | a :: r, w => by
    rw [fI]
    by_cases h : L = a
    · rw [if_pos h]; right; simp only [List.length_cons]; omega
    · rw [if_neg h]
      rcases fI_rng (L := L) r (w + 1) with e | e
      · exact Or.inl e
      · right; simp only [List.length_cons]; omega
theorem fI_get {L : List Int} : ∀ (W : List (List Int)) (w : Int) (j : Nat), fI L W w = w + j → j < W.length → w + W.length ≤ 52 → W.getD j [] = L
  | [], w, j, _, h, _ => by simp at h
  | a :: r, w, j, e, h, hw => by
    rw [fI] at e
    simp only [List.length_cons] at h hw
    by_cases q : L = a
    · rw [if_pos q] at e
      have : j = 0 := by omega
      rw [this]; exact q.symm
    · rw [if_neg q] at e
      cases j with
      | zero =>
        rcases fI_rng (L := L) r (w + 1) with e2 | e2 <;> omega
      | succ j => exact fI_get r (w + 1) j (by omega) (by omega) (by omega)
/-- a number's digits -/
def ns (tp : Int → Int) (k : Int) : Nat → Int
  | 0 => 0
  | j + 1 => if j < 4 then 10 * ns tp k j + tp (k + j) - 48 else ns tp k j
theorem ns_rng {tp : Int → Int} {k : Int} : ∀ n : Nat, (∀ j, k ≤ j → j < k + n → dgB (tp j) = true) → 0 ≤ ns tp k n ∧ ns tp k n ≤ 9999 ∧ (n ≤ 3 → ns tp k n ≤ 999) ∧ (n ≤ 2 → ns tp k n ≤ 99) ∧ (n ≤ 1 → ns tp k n ≤ 9) ∧ (n = 0 → ns tp k n = 0)
  | 0, _ => by rw [ns]; omega
  | n + 1, h => by
    have r := ns_rng n (fun j a b => h j a (by omega))
    have d := gB_t.1 (h (k + n) (by omega) (by omega))
    rw [ns]
    by_cases q : n < 4
    · rw [if_pos q]; omega
    · rw [if_neg q]; omega
def sgK (c : Int) : Int := if c = 40 then 32 else if c = 41 then 33 else if c = 60 then 34 else if c = 61 then 35 else if c = 43 then 36 else if c = 45 then 37 else if c = 42 then 38 else if c = 59 then 39 else 52
section TOK
variable (tp : Int → Int) (tz : Int)
def wdK (k : Int) : Int := fI (ltr tp k (rE lB tp tz k - k).toNat) wds 0
def kK (k : Int) : Int := if lB (tp k) = true then wdK tp tz k else if dgB (tp k) = true then (if rE dgB tp tz k - k ≤ 4 then 50 else 52) else sgK (tp k)
def kV (k : Int) : Int := if lB (tp k) = true then 0 else if dgB (tp k) = true then ns tp k (rE dgB tp tz k - k).toNat else 0
def tkE (k : Int) : Int := if lB (tp k) = true then rE lB tp tz k else if dgB (tp k) = true then rE dgB tp tz k else k + 1
def pos : Nat → Int
  | 0 => rE bB tp tz 0
  | i + 1 => if pos i < tz then rE bB tp tz (tkE tp tz (pos i)) else tz
def tK (i : Nat) : Int := if pos tp tz i < tz then kK tp tz (pos tp tz i) else 51
def tV (i : Nat) : Int := if pos tp tz i < tz then kV tp tz (pos tp tz i) else 0
end TOK
theorem tkE_rng {tp : Int → Int} {tz k : Int} (h : k < tz) : k < tkE tp tz k ∧ tkE tp tz k ≤ tz := by
  rw [tkE]
  by_cases a : lB (tp k) = true
  · rw [if_pos a, rE_s h a]; have := rE_rng (p := lB) (tp := tp) (show k + 1 ≤ tz by omega); omega
  · rw [if_neg a]
    by_cases b : dgB (tp k) = true
    · rw [if_pos b, rE_s h b]; have := rE_rng (p := dgB) (tp := tp) (show k + 1 ≤ tz by omega); omega
    · rw [if_neg b]; omega
theorem pos_rng {tp : Int → Int} {tz : Int} (hz : 0 ≤ tz) : ∀ i : Nat, 0 ≤ pos tp tz i ∧ pos tp tz i ≤ tz ∧ (pos tp tz i < tz → (i : Int) ≤ pos tp tz i)
  | 0 => by
    have := rE_rng (p := bB) (tp := tp) hz
    rw [pos]; omega
  | i + 1 => by
    have r := pos_rng (tp := tp) hz i
    rw [pos]
    by_cases q : pos tp tz i < tz
    · rw [if_pos q]
      have t := tkE_rng (tp := tp) q
      have := rE_rng (p := bB) (tp := tp) t.2
      omega
    · rw [if_neg q]; omega
theorem pos_end {tp : Int → Int} {tz : Int} (hz : 0 ≤ tz) {i j : Nat} (h : pos tp tz i = tz) (hj : i ≤ j) : pos tp tz j = tz := by
  obtain ⟨d, rfl⟩ := Nat.exists_eq_add_of_le hj
  induction d with
  | zero => exact h
  | succ d ih =>
    have := ih (by omega)
    show (if pos tp tz (i + d) < tz then _ else tz) = tz
    rw [if_neg (by omega)]
theorem wdK_rng {tp : Int → Int} {tz k : Int} : wdK tp tz k = 52 ∨ (0 ≤ wdK tp tz k ∧ wdK tp tz k < 30) := by
  have := fI_rng (L := ltr tp k (rE lB tp tz k - k).toNat) wds 0
  have e : wds.length = 30 := rfl
  rw [e] at this
  rw [wdK]; omega
theorem sgK_rng {c : Int} : sgK c = 52 ∨ (32 ≤ sgK c ∧ sgK c < 40) := by
  rw [sgK]
  repeat' split
  all_goals omega
theorem kK_rng {tp : Int → Int} {tz k : Int} : (0 ≤ kK tp tz k ∧ kK tp tz k < 30) ∨ (32 ≤ kK tp tz k ∧ kK tp tz k < 40) ∨ kK tp tz k = 50 ∨ kK tp tz k = 52 := by
  have a := wdK_rng (tp := tp) (tz := tz) (k := k)
  have b := sgK_rng (c := tp k)
  rw [kK]
  by_cases l : lB (tp k) = true
  · rw [if_pos l]; omega
  · rw [if_neg l]
    by_cases d : dgB (tp k) = true
    · rw [if_pos d]
      by_cases e : rE dgB tp tz k - k ≤ 4
      · rw [if_pos e]; omega
      · rw [if_neg e]; omega
    · rw [if_neg d]; omega
theorem kV_rng {tp : Int → Int} {tz k : Int} (h : k ≤ tz) : 0 ≤ kV tp tz k ∧ kV tp tz k ≤ 9999 := by
  rw [kV]
  by_cases l : lB (tp k) = true
  · rw [if_pos l]; omega
  · rw [if_neg l]
    by_cases d : dgB (tp k) = true
    · rw [if_pos d]
      have r := rE_rng (p := dgB) (tp := tp) h
      have := ns_rng (tp := tp) (k := k) (rE dgB tp tz k - k).toNat (fun j a b => rE_run (tz := tz) a (by omega))
      omega
    · rw [if_neg d]; omega
theorem tK_rng {tp : Int → Int} {tz : Int} {i : Nat} : (0 ≤ tK tp tz i ∧ tK tp tz i < 30) ∨ (32 ≤ tK tp tz i ∧ tK tp tz i < 40) ∨ (50 ≤ tK tp tz i ∧ tK tp tz i ≤ 52) := by
  have := kK_rng (tp := tp) (tz := tz) (k := pos tp tz i)
  rw [tK]
  by_cases q : pos tp tz i < tz
  · rw [if_pos q]; omega
  · rw [if_neg q]; omega
theorem tV_rng {tp : Int → Int} {tz : Int} {i : Nat} : 0 ≤ tV tp tz i ∧ tV tp tz i ≤ 9999 := by
  rw [tV]
  by_cases q : pos tp tz i < tz
  · rw [if_pos q]; exact kV_rng (by omega)
  · rw [if_neg q]; omega
theorem tK_end {tp : Int → Int} {tz : Int} {i : Nat} : tK tp tz i = 51 ↔ ¬ pos tp tz i < tz := by
  have := kK_rng (tp := tp) (tz := tz) (k := pos tp tz i)
  rw [tK]
  by_cases q : pos tp tz i < tz
  · rw [if_pos q]; omega
  · rw [if_neg q]; omega
