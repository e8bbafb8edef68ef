/-! an E by the class beside the reference's; numbers, words and signs of a line, both sides -/
theorem cmp_le {a b : Int} (ha : i64 a) (hb : i64 b) : (lg_cmp (zl a) (zl b) ≤ 0) = (a ≤ b) := by
  have e1 := zl_lt hb ha
  rw [lg_cmp]
  show ((if zl b < zl a then (1 : Int32) else if zl a = zl b then 0 else -1) ≤ 0) = _
  by_cases h1 : b < a
  · rw [if_pos (by rw [e1]; exact h1), eq_iff_iff]; exact ⟨fun z => absurd z (by decide), fun z => by omega⟩
  · rw [if_neg (by rw [e1]; exact h1)]
    by_cases h2 : zl a = zl b
    · rw [if_pos h2, eq_iff_iff]; exact ⟨fun _ => by omega, fun _ => by decide⟩
    · rw [if_neg h2, eq_iff_iff]; exact ⟨fun _ => by omega, fun _ => by decide⟩
theorem flt_c (k p : Int) : zi k + 16 * zi p = zi (k + 16 * p) := by rw [zi_lit, zi_mul, zi_add]
section NM
variable {tp : Int → Int} {tz : Int} {N : Nat} {so va pc f g h : Int → Int}
/-- the E that begins at i: the reference's reading of it, and the class's (K, as it stands behind the sign ;) -/
theorem E_both (hz : 0 ≤ tz ∧ tz ≤ 1000) (hN : pos tp tz N = tz) (hN1 : N ≤ 1000) (hf : flR tp tz (N + 1) so va pc) {i : Nat} (hi : i ≤ N) : ∃ (k : Int) (j : Nat) (C : List Int), (i ≤ j ∧ j ≤ N) ∧ (k = 0 ∨ k = 1 ∨ k = 5) ∧ (k = 0 → i < j ∧ XE 25 C ∧ C.length ≤ j - i) ∧ (∀ Q : Int → Nat → List Int → Prop, (k ≠ 0 → Q k j []) → (k = 0 → tK tp tz j = 39 → Q 0 j C) → (k = 0 → tK tp tz j ≠ 39 → Q 1 j []) → YW tp tz Q i [] [] 0 true) ∧ RS tp tz (ofT (wp_X12_all (wp_X12_takePart 6)) so va pc 0) i k j C := by
  obtain ⟨k, j, C, h1, h2, h3, h4, h5⟩ := E_top hz hN hN1 hf i hi
  refine ⟨k, j, C, h1, h2, fun z => ⟨(h3 z).1, (h3 z).2.1, (h3 z).2.2.1⟩, fun Q q1 q2 q3 => ?_, h5⟩
  have K := h4 [] (by decide) (by decide) Q []
  by_cases z : k = 0
  · have en := (h3 z).2.2.2
    by_cases b : bdT (tK tp tz j)
    · exact (K.1 z).1 b (q3 z (by unfold bdT at b; omega))
    · refine (K.1 z).2 b ?_
      rw [List.nil_append]
      by_cases e39 : tK tp tz j = 39
      · exact YW_semi e39 (by decide) (fun y => absurd rfl y) (fun _ => q2 z e39)
      · by_cases e33 : tK tp tz j = 33
        · exact YW_close0 e33 (q3 z e39)
        · refine YW_stop (rk_0 ?_) e39 e33 (q3 z e39)
          unfold enT at en
          unfold bdT at b
          unfold lkT
          omega
  · exact K.2 z (q1 z)
/-- how a number within bounds stands at a place: 0, or its fault -/
def nS (tp : Int → Int) (tz : Int) (lo hi : Int) (i : Nat) : Int := if tK tp tz i = 50 then (if tV tp tz i < lo ∨ hi < tV tp tz i then 4 else 0) else 1
theorem nS_rng {lo hi : Int} {i : Nat} : nS tp tz lo hi i = 0 ∨ nS tp tz lo hi i = 1 ∨ nS tp tz lo hi i = 4 := by
  rw [nS]
  repeat' split
  all_goals omega
theorem nS_0 {lo hi : Int} {i : Nat} (h : nS tp tz lo hi i = 0) : tK tp tz i = 50 ∧ lo ≤ tV tp tz i ∧ tV tp tz i ≤ hi := by
  rw [nS] at h
  by_cases a : tK tp tz i = 50
  · rw [if_pos a] at h
    by_cases b : tV tp tz i < lo ∨ hi < tV tp tz i
    · rw [if_pos b] at h; omega
    · omega
  · rw [if_neg a] at h; omega
theorem nS_lt (hN : pos tp tz N = tz) {lo hi : Int} {i : Nat} (hi' : i ≤ N) (h : nS tp tz lo hi i = 0) : i < N := tK_lt hN hi' (by have := nS_0 h; omega)
abbrev sz (N : Nat) : Int32 := zi ((N + 1 : Nat) : Int)
theorem p_numC (hz : 0 ≤ tz ∧ tz ≤ 1000) (hf : flC tp tz (N + 1) f g h) (hN : pos tp tz N = tz) (hN1 : N ≤ 1000) {i : Nat} (hi : i ≤ N) {lo hi' : Int} (hb : 0 ≤ lo ∧ lo ≤ 9999 ∧ 0 ≤ hi' ∧ hi' ≤ 9999) {num np fa : Int32} {post : Int32 → Int32 → Int32 → Int32 → Int32 → Int32 → Int32 → Int32 → Prop}
    (h0 : nS tp tz lo hi' i = 0 → post 1 (zi ((i + 1 + 1 : Nat) : Int)) (zi (tK tp tz (i + 1))) (zi (tV tp tz (i + 1))) (zi (pos tp tz (i + 1))) (zi (tV tp tz i)) (zi (pos tp tz i)) fa)
    (h1 : nS tp tz lo hi' i ≠ 0 → post 0 (zi ((i + 1 : Nat) : Int)) (zi (tK tp tz i)) (zi (tV tp tz i)) (zi (pos tp tz i)) num np (zi (nS tp tz lo hi' i + 16 * pos tp tz i))) : wp_X4_readNumber (sz N) (sz N) (zA g) (sz N) (zi tz) (zA h) (zA f) (zi ((i + 1 : Nat) : Int)) (zi (tK tp tz i)) (zi (tV tp tz i)) (zi (pos tp tz i)) num np fa (zi lo) (zi hi') post := by
  have tr := tK_rng (tp := tp) (tz := tz) (i := i)
  have vr := tV_rng (tp := tp) (tz := tz) (i := i)
  rw [nS] at h0 h1
  rw [wp_X4_readNumber]
  refine ⟨fun e50 => ?_, fun n50 => ?_⟩
  · rw [zi_lit, zi_eq (by omega)] at e50
    rw [if_pos e50] at h0 h1
    have bad : tV tp tz i < lo ∨ hi' < tV tp tz i → wp_X4_readNumber_b35 (sz N) (sz N) (zA g) (sz N) (zi tz) (zA h) (zA f) post (zi ((i + 1 : Nat) : Int)) (zi (tK tp tz i)) (zi (tV tp tz i)) (zi (pos tp tz i)) num np fa := by
      intro b
      rw [if_pos b] at h1
      rw [wp_X4_readNumber_b35, wp_X4_wrong, forall_eq]
      refine ⟨Or.inl rfl, ?_⟩
      rw [show (4 : Int32) + 16 * zi (pos tp tz i) = _ from flt_c 4 _]
      exact h1 (by omega)
    rw [zi_lt (by omega), zi_le (by omega)]
    refine ⟨fun z => bad (Or.inl z), fun z => ⟨fun y => ?_, fun y => bad (Or.inr (by omega))⟩⟩
    rw [if_neg (by omega)] at h0
    have iN : i < N := tK_lt hN hi (by omega)
    exact p_advC hf hN1 (by omega) (h0 rfl)
  · rw [zi_lit, zi_eq (by omega)] at n50
    rw [if_neg n50] at h1
    rw [wp_X4_wrong, forall_eq]
    refine ⟨Or.inl rfl, ?_⟩
    rw [show (1 : Int32) + 16 * zi (pos tp tz i) = _ from flt_c 1 _]
    exact h1 (by omega)
theorem p_expC (hf : flC tp tz (N + 1) f g h) (hN : pos tp tz N = tz) (hN1 : N ≤ 1000) {i : Nat} (hi : i ≤ N) {q : Int} (hq : 0 ≤ q ∧ q < 50) {fa : Int32} {post : Int32 → Int32 → Int32 → Int32 → Int32 → Int32 → Prop}
    (h0 : tK tp tz i = q → post 1 (zi ((i + 1 + 1 : Nat) : Int)) (zi (tK tp tz (i + 1))) (zi (tV tp tz (i + 1))) (zi (pos tp tz (i + 1))) fa)
    (h1 : tK tp tz i ≠ q → post 0 (zi ((i + 1 : Nat) : Int)) (zi (tK tp tz i)) (zi (tV tp tz i)) (zi (pos tp tz i)) (zi (1 + 16 * pos tp tz i))) : wp_X4_expect (sz N) (sz N) (zA g) (sz N) (zi tz) (zA h) (zA f) (zi ((i + 1 : Nat) : Int)) (zi (tK tp tz i)) (zi (tV tp tz i)) (zi (pos tp tz i)) fa (zi q) post := by
  have tr := tK_rng (tp := tp) (tz := tz) (i := i)
  rw [wp_X4_expect, zi_eq (by omega)]
  refine ⟨fun e => p_advC hf hN1 ?_ (h0 e), fun n => ?_⟩
  · have := tK_lt hN hi (by omega); omega
  · rw [wp_X4_wrong, forall_eq]
    refine ⟨Or.inl rfl, ?_⟩
    rw [show (1 : Int32) + 16 * zi (pos tp tz i) = _ from flt_c 1 _]
    exact h1 n
theorem p_numF {at_ fa p1 p2 : Int32} {t4 t1 : Nat → Int32} {t2 : Nat → Int64} (hfa : ¬ fa = 0) (hfl : ¬ fa ≤ 0) {post : Int32 → Int32 → Int32 → Prop} (h : post 0 at_ fa) : wp_X12_takeNumber t2 t4 t1 at_ fa p1 p2 post := by
  rw [wp_X12_takeNumber, wp_X12_takeNumber_b28, wp_X12_takeNumber_b70]
  exact ⟨fun _ => ⟨fun _ => ⟨fun z => absurd z hfl, fun _ => h⟩, fun z => absurd z hfa⟩, fun z => absurd z hfa⟩
theorem p_numR (hz : 0 ≤ tz ∧ tz ≤ 1000) (hf : flR tp tz (N + 1) so va pc) (hN1 : N ≤ 1000) {i : Nat} (hi : i ≤ N) {lo hi' : Int} (hb : 0 ≤ lo ∧ lo ≤ 9999 ∧ 0 ≤ hi' ∧ hi' ≤ 9999) {post : Int32 → Int32 → Int32 → Prop}
    (h0 : nS tp tz lo hi' i = 0 → post (zi (tV tp tz i)) (zi ((i + 1 : Nat) : Int)) 0)
    (h1 : nS tp tz lo hi' i ≠ 0 → post 0 (zi i) (zi (nS tp tz lo hi' i + 16 * pos tp tz i))) : wp_X12_takeNumber (zL va) (zA pc) (zA so) (zi i) 0 (zi lo) (zi hi') post := by
  obtain ⟨⟨r1, r2, r3, r4, r5, r6, r7⟩, _⟩ := hf i (by omega)
  have vr := tV_rng (tp := tp) (tz := tz) (i := i)
  rw [nS] at h0 h1
  rw [wp_X12_takeNumber, zA_get (by omega)]
  refine ⟨fun z => absurd rfl z, fun _ => ⟨lt_1002 hi hN1, fun e2 => ?_, fun n2 => ?_⟩⟩
  · rw [zi_lit, zi_eq (by omega), r1] at e2
    rw [if_pos e2] at h0 h1
    have ev := r2 e2
    rw [wp_X12_takeNumber_b28, zL_get (by omega), ev, zl_wide (by omega), zl_wide (by omega)]
    refine ⟨fun z => absurd rfl z, fun _ => ⟨lt_1002 hi hN1, fun y => ?_, fun y => ⟨lt_1002 hi hN1, fun x => ?_, fun x => ?_⟩⟩⟩
    · rw [cmp_lt ⟨by omega, by omega⟩ ⟨by omega, by omega⟩] at y
      rw [if_pos (Or.inl y)] at h1
      rw [wp_X12_takeNumber_b65]
      refine p_wrongR (k := 4) hf hz hN1 hi ?_
      rw [wp_X12_takeNumber_b70]
      exact ⟨fun z => absurd z (flt_le hz (by omega) i), fun _ => h1 (by omega)⟩
    · rw [cmp_lt ⟨by omega, by omega⟩ ⟨by omega, by omega⟩] at y
      rw [cmp_le ⟨by omega, by omega⟩ ⟨by omega, by omega⟩] at x
      rw [if_neg (by omega)] at h0
      rw [wp_X12_takeNumber_b70]
      refine ⟨fun _ x86 e86 x99 e99 => ?_, fun z => absurd (by decide) z⟩
      rw [zi_p1] at e86
      have e0 : x99 = zi i := by rw [e99, e86, zi_lit, zi_sub]; congr 1; omega
      rw [e0, e86, zL_get (by omega), ev, zl_narrow (by omega)]
      exact ⟨lt_1002 hi hN1, h0 rfl⟩
    · rw [cmp_le ⟨by omega, by omega⟩ ⟨by omega, by omega⟩] at x
      have x2 : hi' < tV tp tz i := by omega
      rw [if_pos (Or.inr x2)] at h1
      rw [wp_X12_takeNumber_b65]
      refine p_wrongR (k := 4) hf hz hN1 hi ?_
      rw [wp_X12_takeNumber_b70]
      exact ⟨fun z => absurd z (flt_le hz (by omega) i), fun _ => h1 (by omega)⟩
  · rw [zi_lit, zi_eq (by omega), r1] at n2
    rw [if_neg n2] at h1
    refine p_wrongR (k := 1) hf hz hN1 hi ?_
    rw [wp_X12_takeNumber_b70]
    exact ⟨fun z => absurd z (flt_le hz (by omega) i), fun _ => h1 (by omega)⟩
end NM
