/-! the class's reading of an E, token by token -/
def rk (t : Int) : Int := if t = 17 ∨ t = 18 then 1 else if t = 34 ∨ t = 35 then 2 else if t = 36 ∨ t = 37 then 3 else if t = 38 then 4 else 0
def hdI : List Int → Int
  | [] => -1
  | t :: _ => t
def stl (r : Int) : List Int → List Int → List Int × List Int
  | [], c => ([], c)
  | t :: P, c => if r ≤ rk t then stl r P (c ++ [-1 - t]) else (t :: P, c)
/-- each not right ahead is done -/
def dN : List Int → List Int
  | [] => []
  | t :: P => if t = 19 then dN P else t :: P
def cN : List Int → Nat
  | [] => 0
  | t :: P => if t = 19 then cN P + 1 else 0
theorem rk_rng {t : Int} : 0 ≤ rk t ∧ rk t ≤ 4 := by
  rw [rk]
  repeat' split
  all_goals omega
theorem rk_0 {t : Int} (h : ¬ lkT t) : rk t = 0 := by
  unfold lkT at h
  rw [rk, if_neg (by omega), if_neg (by omega), if_neg (by omega), if_neg (by omega)]
theorem rk_lk {t : Int} (h : rk t ≠ 0) : lkT t := by
  by_cases q : lkT t
  · exact q
  · exact absurd (rk_0 q) h
theorem stl_no {r : Int} (hr : 1 ≤ r) : ∀ {P c : List Int}, rk (hdI P) < r → stl r P c = (P, c)
  | [], c, _ => rfl
  | t :: P, c, h => by rw [stl, if_neg (by rw [hdI] at h; omega)]
theorem stl_one {r t : Int} (hr : 1 ≤ r) {P c : List Int} (h : r ≤ rk t) (hp : rk (hdI P) < r) : stl r (t :: P) c = (P, c ++ [-1 - t]) := by
  rw [stl, if_pos h, stl_no hr hp]
theorem stl_stl {q r : Int} (h : q ≤ r) : ∀ (P c : List Int), stl q (stl r P c).1 (stl r P c).2 = stl q P c
  | [], c => rfl
  | t :: P, c => by
    rw [stl]
    by_cases g : r ≤ rk t
    · rw [if_pos g, stl_stl h P, stl, if_pos (by omega)]
    · rw [if_neg g]
theorem dN_0 : ∀ {P : List Int}, hdI P ≠ 19 → dN P = P ∧ cN P = 0
  | [], _ => ⟨rfl, rfl⟩
  | t :: P, h => by
    rw [hdI] at h
    rw [dN, cN, if_neg h, if_neg h]; exact ⟨rfl, rfl⟩
section YD
variable (tp : Int → Int) (tz : Int)
def yP (Y : Nat → List Int → List Int → Int → Bool → Prop) (i : Nat) (P c : List Int) (d : Int) (Q : Int → Nat → List Int → Prop) : Prop :=
  if tK tp tz i = 39 then Q 1 i [] else if tK tp tz i = 19 ∨ tK tp tz i = 32 then (if 5 ≤ d then Q 5 i [] else Y (i + 1) (tK tp tz i :: P) c (d + 1) true) else if tK tp tz i = 50 ∨ tK tp tz i = 20 ∨ tK tp tz i = 21 then (if 5 ≤ d then Q 5 i [] else Y (i + 1) (dN P) (c ++ [if tK tp tz i = 50 then tV tp tz i else -1 - tK tp tz i] ++ List.replicate (cN P) (-20)) (d - cN P) false) else Q 1 i []
def yC (Y : Nat → List Int → List Int → Int → Bool → Prop) (i : Nat) (d : Int) (Q : Int → Nat → List Int → Prop) : List Int × List Int → Prop
  | ([], _) => Q 1 i []
  | (t :: P, c) => if t = 32 then Y (i + 1) (dN P) (c ++ List.replicate (cN P) (-20)) (d - 1 - cN P) false else Q 1 i []
def yK (Y : Nat → List Int → List Int → Int → Bool → Prop) (i : Nat) (d t : Int) (Q : Int → Nat → List Int → Prop) (Z : List Int × List Int) : Prop :=
  if rk t = 2 ∧ rk (hdI Z.1) = 2 then Q 1 i [] else Y (i + 1) (t :: Z.1) Z.2 d true
def yL (Y : Nat → List Int → List Int → Int → Bool → Prop) (i : Nat) (P c : List Int) (d : Int) (Q : Int → Nat → List Int → Prop) : Prop :=
  if tK tp tz i = 39 then (if (stl 1 P c).1 = [] then Q 0 i (stl 1 P c).2 else Q 1 i []) else if tK tp tz i = 33 then yC Y i d Q (stl 1 P c) else if rk (tK tp tz i) = 0 then Q 1 i [] else yK Y i d (tK tp tz i) Q (stl (if rk (tK tp tz i) = 2 then 3 else rk (tK tp tz i)) P c)
def Yw (Q : Int → Nat → List Int → Prop) : Nat → Nat → List Int → List Int → Int → Bool → Prop
  | 0, _, _, _, _, _ => False
  | n + 1, i, P, c, d, w => if w = true then yP tp tz (Yw Q n) i P c d Q else yL tp tz (Yw Q n) i P c d Q
def YW (Q : Int → Nat → List Int → Prop) (i : Nat) (P c : List Int) (d : Int) (w : Bool) : Prop := ∃ n, Yw tp tz Q n i P c d w
end YD
section YE
variable {tp : Int → Int} {tz : Int} {Q : Int → Nat → List Int → Prop}
/-- settling ahead of time changes nothing -/
theorem YW_stl {r : Int} {j : Nat} {P c P' c' : List Int} {d : Int} (e : stl r P c = (P', c')) (h1 : 1 ≤ r) (h2 : rk (tK tp tz j) ≤ r) (h3 : rk (tK tp tz j) = 2 → 3 ≤ r) (h : YW tp tz Q j P' c' d false) : YW tp tz Q j P c d false := by
  obtain ⟨n, h⟩ := h
  refine ⟨n, ?_⟩
  cases n with
  | zero => exact h
  | succ n =>
    have hs : ∀ q, q ≤ r → stl q P' c' = stl q P c := by
      intro q hq
      have := stl_stl hq P c
      rw [e] at this; exact this
    rw [Yw, if_neg (by decide), yL] at h ⊢
    by_cases a : tK tp tz j = 39
    · rw [if_pos a] at h ⊢
      rw [hs 1 h1] at h; exact h
    rw [if_neg a] at h ⊢
    by_cases b : tK tp tz j = 33
    · rw [if_pos b] at h ⊢
      rw [hs 1 h1] at h; exact h
    rw [if_neg b] at h ⊢
    by_cases k : rk (tK tp tz j) = 0
    · rw [if_pos k] at h ⊢; exact h
    rw [if_neg k] at h ⊢
    by_cases m : rk (tK tp tz j) = 2
    · rw [if_pos m] at h ⊢
      rw [hs 3 (h3 m)] at h; exact h
    · rw [if_neg m] at h ⊢
      rw [hs _ h2] at h; exact h
theorem YW_link {i : Nat} {P c : List Int} {d : Int} (hk : rk (tK tp tz i) ≠ 0) (hp : rk (hdI P) < rk (tK tp tz i)) (h : YW tp tz Q (i + 1) (tK tp tz i :: P) c d true) : YW tp tz Q i P c d false := by
  obtain ⟨n, h⟩ := h
  refine ⟨n + 1, ?_⟩
  have l := rk_lk hk
  have r := rk_rng (t := tK tp tz i)
  have r2 := rk_rng (t := hdI P)
  rw [Yw, if_neg (by decide), yL, if_neg (by omega), if_neg (by omega), if_neg hk]
  have e : stl (if rk (tK tp tz i) = 2 then 3 else rk (tK tp tz i)) P c = (P, c) := by
    by_cases m : rk (tK tp tz i) = 2
    · rw [if_pos m]; exact stl_no (by omega) (by omega)
    · rw [if_neg m]; exact stl_no (by omega) (by omega)
  rw [e, yK, if_neg (by dsimp only; omega)]
  exact h
theorem YW_bad {i : Nat} {P c : List Int} {d : Int} (hk : rk (tK tp tz i) = 2) (hp : rk (hdI P) = 2) (h : Q 1 i []) : YW tp tz Q i P c d false := by
  refine ⟨1, ?_⟩
  have l := rk_lk (t := tK tp tz i) (by omega)
  rw [Yw, if_neg (by decide), yL, if_neg (by omega), if_neg (by omega), if_neg (by omega), if_pos hk, stl_no (by omega) (by omega), yK, if_pos ⟨hk, hp⟩]
  exact h
theorem YW_stop {i : Nat} {P c : List Int} {d : Int} (hk : rk (tK tp tz i) = 0) (h1 : tK tp tz i ≠ 39) (h2 : tK tp tz i ≠ 33) (h : Q 1 i []) : YW tp tz Q i P c d false := by
  refine ⟨1, ?_⟩
  rw [Yw, if_neg (by decide), yL, if_neg h1, if_neg h2, if_pos hk]
  exact h
theorem YW_close {i : Nat} {P c : List Int} {d : Int} (hk : tK tp tz i = 33) (h : YW tp tz Q (i + 1) (dN P) (c ++ List.replicate (cN P) (-20)) (d - 1 - cN P) false) : YW tp tz Q i (32 :: P) c d false := by
  obtain ⟨n, h⟩ := h
  refine ⟨n + 1, ?_⟩
  rw [Yw, if_neg (by decide), yL, if_neg (by omega), if_pos hk, stl_no (by omega) (by rw [hdI]; decide), yC, if_pos rfl]
  exact h
theorem YW_semi {i : Nat} {P c : List Int} {d : Int} (hk : tK tp tz i = 39) (hp : rk (hdI P) = 0) (h : P ≠ [] → Q 1 i []) (h0 : P = [] → Q 0 i c) : YW tp tz Q i P c d false := by
  refine ⟨1, ?_⟩
  rw [Yw, if_neg (by decide), yL, if_pos hk, stl_no (by omega) (by omega)]
  dsimp only
  by_cases e : P = []
  · rw [if_pos e]; exact h0 e
  · rw [if_neg e]; exact h e
theorem YW_close0 {i : Nat} {c : List Int} {d : Int} (hk : tK tp tz i = 33) (h : Q 1 i []) : YW tp tz Q i [] c d false := by
  refine ⟨1, ?_⟩
  rw [Yw, if_neg (by decide), yL, if_neg (by omega), if_pos hk, stl, yC]
  exact h
theorem YW_open {i : Nat} {P c : List Int} {d : Int} (hk : tK tp tz i = 19 ∨ tK tp tz i = 32) (hd : d < 5) (h : YW tp tz Q (i + 1) (tK tp tz i :: P) c (d + 1) true) : YW tp tz Q i P c d true := by
  obtain ⟨n, h⟩ := h
  refine ⟨n + 1, ?_⟩
  rw [Yw, if_pos rfl, yP, if_neg (by omega), if_pos hk, if_neg (by omega)]
  exact h
theorem YW_stand {i : Nat} {P c : List Int} {d : Int} (hk : tK tp tz i = 50 ∨ tK tp tz i = 20 ∨ tK tp tz i = 21) (hd : d < 5) (h : YW tp tz Q (i + 1) (dN P) (c ++ [if tK tp tz i = 50 then tV tp tz i else -1 - tK tp tz i] ++ List.replicate (cN P) (-20)) (d - cN P) false) : YW tp tz Q i P c d true := by
  obtain ⟨n, h⟩ := h
  refine ⟨n + 1, ?_⟩
  rw [Yw, if_pos rfl, yP, if_neg (by omega), if_neg (by omega), if_pos hk, if_neg (by omega)]
  exact h
theorem YW_deep {i : Nat} {P c : List Int} {d : Int} (hk : (tK tp tz i = 19 ∨ tK tp tz i = 32) ∨ (tK tp tz i = 50 ∨ tK tp tz i = 20 ∨ tK tp tz i = 21)) (hd : 5 ≤ d) (h : Q 5 i []) : YW tp tz Q i P c d true := by
  refine ⟨1, ?_⟩
  rw [Yw, if_pos rfl, yP, if_neg (by omega)]
  by_cases a : tK tp tz i = 19 ∨ tK tp tz i = 32
  · rw [if_pos a, if_pos hd]; exact h
  · rw [if_neg a, if_pos (by omega), if_pos hd]; exact h
theorem YW_nopart {i : Nat} {P c : List Int} {d : Int} (hk : ¬ ((tK tp tz i = 19 ∨ tK tp tz i = 32) ∨ (tK tp tz i = 50 ∨ tK tp tz i = 20 ∨ tK tp tz i = 21))) (h : Q 1 i []) : YW tp tz Q i P c d true := by
  refine ⟨1, ?_⟩
  rw [Yw, if_pos rfl, yP]
  by_cases a : tK tp tz i = 39
  · rw [if_pos a]; exact h
  · rw [if_neg a, if_neg (by omega), if_neg (by omega)]; exact h
end YE
