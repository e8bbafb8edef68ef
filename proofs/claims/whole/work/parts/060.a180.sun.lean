/-! a line of the sun -/
section SN
variable {tp : Int → Int} {tz : Int} {N : Nat} {so va pc f g h : Int → Int}
/-- the last sun line of a day, among the first n -/
def lstS (S : Int → Int) (d : Int) : Nat → Int
  | 0 => -1
  | n + 1 => if S (262 + 5 * n) = d then S (263 + 5 * n) else lstS S d n
theorem lstS_rng {S : Int → Int} (hs : twR S) {d : Int} : ∀ n : Nat, (n : Int) ≤ S 261 → -1 ≤ lstS S d n ∧ lstS S d n < 120
  | 0, _ => by rw [lstS]; omega
  | n + 1, h => by
    have ih := lstS_rng hs (d := d) n (by omega)
    have := hs.2.2.2.1 n (by omega) (by omega)
    rw [lstS]
    split <;> omega
/-- a word and the number that belongs to it: 0, or the fault and how far on it lies -/
def cS (tp : Int → Int) (tz : Int) (q lo hi : Int) (i : Nat) : Int × Nat := if tK tp tz i ≠ q then (1, i) else if nS tp tz lo hi (i + 1) ≠ 0 then (nS tp tz lo hi (i + 1), i + 1) else (0, i + 1 + 1)
theorem cS_0 {q lo hi : Int} {i : Nat} (h : (cS tp tz q lo hi i).1 = 0) : tK tp tz i = q ∧ nS tp tz lo hi (i + 1) = 0 := by
  rw [cS] at h
  by_cases a : tK tp tz i ≠ q
  · rw [if_pos a] at h; exact absurd h (show (1 : Int) ≠ 0 by decide)
  rw [if_neg a] at h
  by_cases b : nS tp tz lo hi (i + 1) ≠ 0
  · rw [if_pos b] at h; exact absurd h b
  · exact ⟨by omega, by omega⟩
theorem cS_rng {q lo hi : Int} {i : Nat} : ((cS tp tz q lo hi i).1 = 0 ∨ (cS tp tz q lo hi i).1 = 1 ∨ (cS tp tz q lo hi i).1 = 4) := by
  have := nS_rng (tp := tp) (tz := tz) (lo := lo) (hi := hi) (i := i + 1)
  rw [cS]
  by_cases a : tK tp tz i ≠ q
  · rw [if_pos a]; exact Or.inr (Or.inl rfl)
  rw [if_neg a]
  by_cases b : nS tp tz lo hi (i + 1) ≠ 0
  · rw [if_pos b]; exact this
  · rw [if_neg b]; exact Or.inl rfl
theorem p_clauseC (hz : 0 ≤ tz ∧ tz ≤ 1000) (hf : flC tp tz (N + 1) f g h) (hN : pos tp tz N = tz) (hN1 : N ≤ 1000) {i : Nat} (hi : i ≤ N) {q lo hi' : Int} (hq : 0 ≤ q ∧ q < 50) (hb : 0 ≤ lo ∧ lo ≤ 9999 ∧ 0 ≤ hi' ∧ hi' ≤ 9999) {num np fa : Int32} {post : Int32 → Int32 → Int32 → Int32 → Int32 → Int32 → Int32 → Int32 → Prop}
    (h0 : (cS tp tz q lo hi' i).1 = 0 → i + 1 < N → post 1 (zi ((i + 1 + 1 + 1 : Nat) : Int)) (zi (tK tp tz (i + 1 + 1))) (zi (tV tp tz (i + 1 + 1))) (zi (pos tp tz (i + 1 + 1))) (zi (tV tp tz (i + 1))) (zi (pos tp tz (i + 1))) fa)
    (h1 : (cS tp tz q lo hi' i).1 ≠ 0 → ∀ a b c d, post 0 a b c d num np (zi ((cS tp tz q lo hi' i).1 + 16 * pos tp tz (cS tp tz q lo hi' i).2))) : wp_X4_readClause (sz N) (sz N) (zA g) (sz N) (zi tz) (zA h) (zA f) (zi ((i + 1 : Nat) : Int)) (zi (tK tp tz i)) (zi (tV tp tz i)) (zi (pos tp tz i)) num np fa (zi q) (zi lo) (zi hi') post := by
  rw [cS] at h0 h1
  rw [wp_X4_readClause]
  refine p_expC hf hN hN1 hi hq (fun e => ⟨fun z => absurd z (by decide), fun _ => ?_⟩) (fun e => ⟨fun _ => ?_, fun z => absurd rfl z⟩)
  · rw [if_neg (fun z => z e)] at h0 h1
    have iN : i < N := tK_lt hN hi (by omega)
    refine p_numC hz hf hN hN1 (by omega) hb (fun n => ⟨fun z => absurd z (by decide), fun _ => ?_⟩) (fun n => ⟨fun _ => ?_, fun z => absurd rfl z⟩)
    · rw [if_neg (fun z => z n)] at h0
      exact h0 rfl (nS_lt hN (by omega) n)
    · rw [if_pos n] at h1
      exact h1 n _ _ _ _
  · rw [if_pos e] at h1
    exact h1 (show (1 : Int) ≠ 0 by decide) _ _ _ _
theorem p_lastSun {S : Int → Int} {pl : Pool} {suns : Nat → Option Nat} (hs : twR S) (hsu : suR pl S suns) {d : Int} (hd : 0 ≤ d ∧ d < 4) {post : Int32 → Prop} (hp : post (zi (lstS S d (S 261).toNat))) : wp_X8_lastSunOf pl (zi (S 261)) suns (zi d) post := by
  have h24 := hs.2.2.1
  rw [wp_X8_lastSunOf]
  refine lp_for0 (fun n => (zi d, zi (lstS S d n), zi n)) (S 261).toNat rfl ?_ ?_
  · intro kb
    dsimp only [wp_X8_lastSunOf_L4]
    refine ⟨fun _ => hp, fun z => ?_⟩
    rw [zi_le (by omega)] at z; omega
  · intro n hn kb hkb
    have r := hs.2.2.2.1 n (by omega) (by omega)
    have st : lstS S d (n + 1) = if S (262 + 5 * n) = d then S (263 + 5 * n) else lstS S d n := rfl
    rw [st] at hkb
    dsimp only [wp_X8_lastSunOf_L4]
    refine ⟨fun z => ?_, fun _ => ?_⟩
    · rw [zi_le (by omega)] at z; omega
    refine p_sun hsu hs (by omega) (fun q hq => ⟨(fun z => nomatch z), fun q2 e2 => ?_⟩)
    have e3 : q = q2 := Option.some.inj e2
    subst e3
    refine ⟨_, _, _, _, _, hq, fun z y39 e39 => ?_, fun z y39 e39 => ?_⟩
    · rw [zi_eq (by omega)] at z
      rw [if_neg z] at hkb
      rw [e39, zi_p1]; exact hkb
    · rw [zi_eq (by omega)] at z
      rw [if_pos z] at hkb
      rw [e39, zi_p1]; exact hkb
def suK (tp : Int → Int) (tz : Int) (S : Int → Int) (i : Nat) : Int × Nat := if S 261 = 24 then (5, i) else if nS tp tz 0 3 (i + 1) ≠ 0 then (nS tp tz 0 3 (i + 1), i + 1) else if (cS tp tz 9 0 119 (i + 1 + 1)).1 ≠ 0 then cS tp tz 9 0 119 (i + 1 + 1) else if tV tp tz (i + 1 + 1 + 1) ≤ lstS S (tV tp tz (i + 1)) (S 261).toNat then (3, i + 1 + 1 + 1) else if tK tp tz (i + 1 + 1 + 1 + 1) < 22 ∨ 29 < tK tp tz (i + 1 + 1 + 1 + 1) then (1, i + 1 + 1 + 1 + 1) else if nS tp tz 1 99 (i + 1 + 1 + 1 + 1 + 1) ≠ 0 then (nS tp tz 1 99 (i + 1 + 1 + 1 + 1 + 1), i + 1 + 1 + 1 + 1 + 1) else if (cS tp tz 10 1 99 (i + 1 + 1 + 1 + 1 + 1 + 1)).1 ≠ 0 then cS tp tz 10 1 99 (i + 1 + 1 + 1 + 1 + 1 + 1) else smK tp tz (i + 1 + 1 + 1 + 1 + 1 + 1 + 1 + 1)
abbrev suO (tp : Int → Int) (tz : Int) (i : Nat) : va_E := ob 7 [.int (zi (tV tp tz (i + 1))), .int (zi (tV tp tz (i + 1 + 1 + 1))), .int (zi (tK tp tz (i + 1 + 1 + 1 + 1) - 22)), .int (zi (tV tp tz (i + 1 + 1 + 1 + 1 + 1))), .int (zi (tV tp tz (i + 1 + 1 + 1 + 1 + 1 + 1 + 1)))]
theorem p_addSunC {S : Int → Int} (h24 : 0 ≤ S 261 ∧ S 261 < 24) {pl : Pool} {suns : Nat → Option Nat} {q : Nat} {a b c d e : Int32} (hm : (q, ob 7 [.int a, .int b, .int c, .int d, .int e]) ∈ pl) {post : Int32 → (Nat → Option Nat) → Prop} (hp : post (zi (S 261 + 1)) (va_up suns (S 261).toNat (some q))) : wp_X8_addSun pl (zi (S 261)) suns q post := by
  have e24 : nI 24 = zi 24 := rfl
  rw [wp_X8_addSun, e24]
  refine ⟨fun z => ?_, fun _ => ⟨fun z => ?_, fun _ => ⟨a, b, c, d, e, hm, ?_, fun su esu x ex => ?_⟩⟩⟩
  · rw [zi_lit, zi_lt (by omega)] at z; omega
  · rw [zi_le (by omega)] at z; omega
  · rw [zi_in (by omega)]; omega
  · rw [esu, ex, zi_cl (by omega), show zi (S 261) + 1 = zi (S 261 + 1) by rw [zi_lit, zi_add]]; exact hp
end SN
