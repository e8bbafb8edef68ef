/-! a line of an awning or a shut: what it says of each minute; the class's line -/
section FT
def flW (W : Nat → Int64) (site : Int) (v : Int → Int → Int32) : Nat → (Nat → Int64)
  | 0 => W
  | n + 1 => if v ((n / 120 : Nat) : Int) ((n % 120 : Nat) : Int) ≠ 0 then hbp (flW W site v n) n site else flW W site v n
theorem flW_hb {W : Nat → Int64} {site : Int} {v : Int → Int → Int32} (hs : 0 ≤ site ∧ site < 100) {r s : Int} (hr : 0 ≤ r) (hs' : 0 ≤ s ∧ s < 128) : ∀ n : Nat, (hb (flW W site v n) r s = true ↔ hb W r s = true ∨ (r < n ∧ s = site ∧ v (r / 120) (r % 120) ≠ 0))
  | 0 => by
    rw [flW]
    constructor
    · intro z; exact Or.inl z
    · rintro (z | z)
      · exact z
      · omega
  | n + 1 => by
    have ih := flW_hb hs hr hs' n (W := W) (v := v)
    rw [flW]
    by_cases q : v ((n / 120 : Nat) : Int) ((n % 120 : Nat) : Int) ≠ 0
    · rw [if_pos q, hb_p (by omega) (by omega) hr hs', Bool.or_eq_true, ih, decide_eq_true_iff]
      constructor
      · rintro ((z | z) | z)
        · exact Or.inl z
        · exact Or.inr ⟨by omega, z.2⟩
        · refine Or.inr ⟨by omega, z.2, ?_⟩
          rw [z.1]; exact q
      · rintro (z | z)
        · exact Or.inl (Or.inl z)
        · by_cases e : r = n
          · exact Or.inr ⟨e, z.2.1⟩
          · exact Or.inl (Or.inr ⟨by omega, z.2⟩)
    · rw [if_neg q, ih]
      constructor
      · rintro (z | z)
        · exact Or.inl z
        · exact Or.inr ⟨by omega, z.2⟩
      · rintro (z | z)
        · exact Or.inl z
        · by_cases e : r = n
          · rw [e] at z
            exact absurd z.2.2 q
          · exact Or.inr ⟨by omega, z.2⟩
theorem p_fillC {C : List Int} {cf : Int → Int} (hf : fwd cf C) (hl : C.length ≤ 1000) {site : Int} (hs : 0 ≤ site ∧ site < 100) {v : Int → Int → Int32} (hv : ∀ d m : Int, rnO (zi d) (zi m) C [] = some [v d m]) {vals : Nat → Int32} {W : Nat → Int64} {post : (Nat → Int32) → (Nat → Int64) → Prop} (hp : ∀ vals', post vals' (flW W site v 480)) : wp_X4_fillTimes 960 (zi site) (zi C.length) (zA cf) vals W post := by
  rw [wp_X4_fillTimes]
  refine lp_inv (fun d s => ∃ vals' : Nat → Int32, s = (vals', flW W site v (120 * d), zi d)) 4 ?_ ?_ 0 (by omega) ⟨vals, rfl⟩
  · rintro s ⟨vals', rfl⟩ kb
    dsimp only [wp_X4_fillTimes_L2]
    exact ⟨fun _ => hp _, fun z => absurd (by decide) z⟩
  · rintro d hd s ⟨vals', rfl⟩ kb hkb
    dsimp only [wp_X4_fillTimes_L2]
    refine ⟨fun z => ?_, fun _ => ?_⟩
    · rw [zi_lit, zi_le (by omega)] at z; omega
    refine lp_inv (fun m s => ∃ vals' : Nat → Int32, s = (vals', flW W site v (120 * d + m), zi d, zi m)) 120 ?_ ?_ 0 (by omega) ⟨vals', rfl⟩
    · rintro s ⟨vals2, rfl⟩ kb2
      dsimp only [wp_X4_fillTimes_L9]
      refine ⟨fun _ y46 e46 => ?_, fun z => absurd (by decide) z⟩
      rw [e46, zi_p1]
      exact hkb _ ⟨vals2, rfl⟩
    · rintro m hm s ⟨vals2, rfl⟩ kb2 hkb2
      have ed : (120 * d + m) / 120 = d := by omega
      have em : (120 * d + m) % 120 = m := by omega
      have ef : flW W site v (120 * d + (m + 1)) = if v (d : Int) (m : Int) ≠ 0 then hbp (flW W site v (120 * d + m)) ((120 * d + m : Nat) : Int) site else flW W site v (120 * d + m) := by
        rw [← Nat.add_assoc, flW, ed, em]
      dsimp only [wp_X4_fillTimes_L9]
      refine ⟨fun z => ?_, fun _ => ?_⟩
      · rw [zi_lit, zi_le (by omega)] at z; omega
      refine p_valueC hf hl (hv d m) (fun vals3 => ⟨fun z y40 e40 => ?_, fun z => ?_⟩)
      · rw [e40, zi_p1]
        rw [if_neg (fun y => y z)] at ef
        exact hkb2 _ ⟨vals3, by rw [ef]⟩
      · rw [if_pos z] at ef
        refine p_row ?_
        refine p_put (by decide) (by omega) hs (fun y40 e40 => ?_)
        rw [e40, zi_p1]
        refine hkb2 _ ⟨vals3, ?_⟩
        rw [ef]
        have e3 : ((120 * d + m : Nat) : Int) = 120 * (d : Int) + m := by omega
        rw [e3]
end FT
section CL
variable {tp : Int → Int} {tz : Int} {N : Nat} {so va pc f g h : Int → Int}
/-- a cloth's line, with what its E comes to (k, j) -/
def clK (tp : Int → Int) (tz : Int) (S : Int → Int) (i : Nat) (k : Int) (j : Nat) : Int × Nat := if S 200 = 20 then (5, i) else if nS tp tz 0 9 (i + 1) ≠ 0 then (nS tp tz 0 9 (i + 1), i + 1) else if nS tp tz 0 9 (i + 1 + 1) ≠ 0 then (nS tp tz 0 9 (i + 1 + 1), i + 1 + 1) else if tK tp tz (i + 1 + 1 + 1) ≠ 8 then (1, i + 1 + 1 + 1) else if k ≠ 0 then (k, j) else smK tp tz j
theorem p_clothC (hz : 0 ≤ tz ∧ tz ≤ 1000) (hf : flC tp tz (N + 1) f g h) (hN : pos tp tz N = tz) (hN1 : N ≤ 1000) {i : Nat} (hi : i < N) {S : Int → Int} {al sl : Int} (hc : 0 ≤ al ∧ 0 ≤ sl ∧ al + sl = S 200 ∧ S 200 ≤ 20) {aw sw : Nat → Int64} {what : Int} (hw : what = 3 ∨ what = 4)
    {k : Int} {j : Nat} {C : List Int} (hk : k = 0 ∨ k = 1 ∨ k = 5) (hj : i + 1 + 1 + 1 + 1 ≤ N → i + 1 + 1 + 1 + 1 ≤ j ∧ j ≤ N) {v : Int → Int → Int32} (hv : k = 0 → ∀ d m : Int, rnO (zi d) (zi m) C [] = some [v d m]) (hl : C.length ≤ 1000)
    (hY : i + 1 + 1 + 1 + 1 ≤ N → ∀ Q : Int → Nat → List Int → Prop, (k ≠ 0 → Q k j []) → (k = 0 → tK tp tz j = 39 → Q 0 j C) → (k = 0 → tK tp tz j ≠ 39 → Q 1 j []) → YW tp tz Q (i + 1 + 1 + 1 + 1) [] [] 0 true)
    {num np site fa d0 w0 cz0 pz0 : Int32} {pi0 ci0 : Int → Int} {vals : Nat → Int32} {post : Int32 → Int32 → Int32 → Int32 → Int32 → Int32 → Int32 → Int32 → Int32 → Int32 → Int32 → Int32 → Int32 → Int32 → Int32 → (Nat → Int32) → (Nat → Int32) → (Nat → Int32) → (Nat → Int64) → (Nat → Int64) → Prop}
    (g1 : (clK tp tz S i k j).1 ≠ 0 → ∀ a b c d e e2 e3 e4 e5 h1 h2 h3 h4 h5 h6 h7 h8 h9, post 0 a b c d e e2 e3 (zi ((clK tp tz S i k j).1 + 16 * pos tp tz (clK tp tz S i k j).2)) e4 e5 h1 h2 h3 h4 h5 h6 h7 h8 h9)
    (g0 : (clK tp tz S i k j).1 = 0 → k = 0 → (0 ≤ sqA tp tz (i + 1) ∧ sqA tp tz (i + 1) < 100) → S 200 < 20 → i + 1 + 1 + 1 + 1 ≤ N → ((clK tp tz S i k j).2 ≤ N ∧ i < (clK tp tz S i k j).2) → ∀ e e2 e3 h1 h2 h3 h4 h5 h6 h7, post 1 (zi (((clK tp tz S i k j).2 + 1 : Nat) : Int)) (zi (tK tp tz (clK tp tz S i k j).2)) (zi (tV tp tz (clK tp tz S i k j).2)) (zi (pos tp tz (clK tp tz S i k j).2)) e e2 e3 fa (zi (if what = 3 then al + 1 else al)) (zi (if what = 3 then sl else sl + 1)) h1 h2 h3 h4 h5 h6 h7 (if what = 3 then sw else flW sw (sqA tp tz (i + 1)) v 480) (if what = 3 then flW aw (sqA tp tz (i + 1)) v 480 else aw)) : wp_X4_readTimed (sz N) (sz N) (zA g) (sz N) (zi tz) (zA h) (zA f) (zi ((i + 1 : Nat) : Int)) (zi (tK tp tz i)) (zi (tV tp tz i)) (zi (pos tp tz i)) num np site fa (zi al) (zi sl) d0 w0 cz0 pz0 (zA pi0) (zA ci0) vals sw aw (if what = 3 then 1 else 0) post := by
  rw [wp_X4_readTimed, zi_add, zi_lit, zi_lt (by omega)]
  refine ⟨fun q => ?_, fun q => ?_⟩
  rotate_left
  · rw [clK, if_pos (by omega)] at g1
    rw [wp_X4_wrong, forall_eq, show (5 : Int32) + 16 * zi (pos tp tz i) = _ from flt_c 5 _]
    exact ⟨Or.inl rfl, g1 (show (5 : Int) ≠ 0 by decide) _ _ _ _ _ _ _ _ _ _ _ _ _ _ _ _ _ _⟩
  rw [clK, if_neg (by omega)] at g1 g0
  refine p_advC hf hN1 (by omega) ?_
  refine p_siteC hz hf hN hN1 (by omega) (fun n1 n2 => ?_) (fun n1 a b c d e e2 e3 => ⟨fun _ => ?_, fun z => absurd rfl z⟩) (fun n1 n2 a b c d e e2 e3 => ⟨fun _ => ?_, fun z => absurd rfl z⟩)
  rotate_left
  · rw [if_pos n1] at g1
    exact g1 n1 _ _ _ _ _ _ _ _ _ _ _ _ _ _ _ _ _ _
  · rw [if_neg (fun z => z n1), if_pos n2] at g1
    exact g1 n2 _ _ _ _ _ _ _ _ _ _ _ _ _ _ _ _ _ _
  have sr := sqA_rng n1 n2
  have i1 := nS_lt hN (by omega) n1
  have i2 := nS_lt hN (by omega) n2
  rw [if_neg (fun z => z n1), if_neg (fun z => z n2)] at g1 g0
  refine ⟨fun z => absurd z (by decide), fun _ => ?_⟩
  refine p_expC (q := 8) hf hN hN1 (by omega) (by omega) (fun e8 => ⟨fun _ => ?_, fun z => absurd z (by decide)⟩) (fun e8 => ⟨fun z => absurd rfl z, fun _ => ?_⟩)
  rotate_left
  · rw [if_pos (show tK tp tz (i + 1 + 1 + 1) ≠ 8 from e8)] at g1
    exact g1 (show (1 : Int) ≠ 0 by decide) _ _ _ _ _ _ _ _ _ _ _ _ _ _ _ _ _ _
  rw [if_neg (fun z => z e8)] at g1 g0
  have i3 : i + 1 + 1 + 1 < N := tK_lt hN (by omega) (fun z => by rw [show tK tp tz (i + 1 + 1 + 1) = 8 from e8] at z; exact absurd z (by decide))
  have jr := hj (by omega)
  have sm : k = 0 → tK tp tz j ≠ 39 → (if k ≠ 0 then (k, j) else smK tp tz j) = (1, j) := fun z y => by rw [if_neg (fun x => x z), smK, if_neg y]
  have sm0 : k = 0 → tK tp tz j = 39 → (if k ≠ 0 then (k, j) else smK tp tz j) = (0, j + 1) := fun z y => by rw [if_neg (fun x => x z), smK, if_pos y]
  obtain ⟨n, hn⟩ := hY (by omega) (fun k' j' C' => j' = j ∧ ((k ≠ 0 ∧ k' = k) ∨ (k = 0 ∧ tK tp tz j = 39 ∧ k' = 0 ∧ C' = C) ∨ (k = 0 ∧ tK tp tz j ≠ 39 ∧ k' = 1))) (fun z => ⟨rfl, Or.inl ⟨z, rfl⟩⟩) (fun z y => ⟨rfl, Or.inr (Or.inl ⟨z, y, rfl, rfl⟩)⟩) (fun z y => ⟨rfl, Or.inr (Or.inr ⟨z, y, rfl⟩)⟩)
  simp only [wp_X2_begin, wp_X0_empty]
  refine ⟨n, p_yard (Q := fun k' j' C' => j' = j ∧ ((k ≠ 0 ∧ k' = k) ∨ (k = 0 ∧ tK tp tz j = 39 ∧ k' = 0 ∧ C' = C) ∨ (k = 0 ∧ tK tp tz j ≠ 39 ∧ k' = 1))) hf hN hN1 ?_ ?_ n (i + 1 + 1 + 1 + 1) [] [] 0 true pi0 ci0 0 hn (by omega) (by omega) (by simp) trivial (fun t ht => absurd ht (by simp)) rfl (by omega)⟩
  · intro i' P c d w pf cf hi' e39 hw1 hw0 hp hcf hlen
    rw [wp_X4_readTimed_b117]
    refine p_endsC (Q := (fun k' j' C' => j' = j ∧ ((k ≠ 0 ∧ k' = k) ∨ (k = 0 ∧ tK tp tz j = 39 ∧ k' = 0 ∧ C' = C) ∨ (k = 0 ∧ tK tp tz j ≠ 39 ∧ k' = 1)))) (i := i') hp hcf hlen hw1 hw0 (fun C' cf' hQ hcf' hl' => ⟨fun _ => ?_, fun z => absurd z (by decide)⟩) (fun hQ a b e => ⟨fun z => absurd rfl z, fun _ => ?_⟩)
    · obtain ⟨ej, hQ⟩ := hQ
      subst ej
      rcases hQ with ⟨z, y⟩ | ⟨z, y, _, x⟩ | ⟨_, _, y⟩
      · exact absurd y.symm z
      rotate_left
      · exact absurd y (by decide)
      subst x
      have jN : i' < N := tK_lt hN hi' (by omega)
      rw [sm0 z y] at g0
      have fin := fun e e2 e3 h1 h2 h3 h4 h5 h6 h7 => g0 rfl z sr (by omega) (by omega) ⟨by show i' + 1 ≤ N; omega, by show i < i' + 1; omega⟩ e e2 e3 h1 h2 h3 h4 h5 h6 h7
      have hexp : ∀ {pp : Int32 → Int32 → Int32 → Int32 → Int32 → Int32 → Prop}, pp 1 (zi ((i' + 1 + 1 : Nat) : Int)) (zi (tK tp tz (i' + 1))) (zi (tV tp tz (i' + 1))) (zi (pos tp tz (i' + 1))) fa → wp_X4_expect (sz N) (sz N) (zA g) (sz N) (zi tz) (zA h) (zA f) (zi ((i' + 1 : Nat) : Int)) (zi (tK tp tz i')) (zi (tV tp tz i')) (zi (pos tp tz i')) fa (zi 39) pp := fun hpp => p_expC hf hN hN1 hi' (by omega) (fun _ => hpp) (fun x => absurd y x)
      rcases hw with w3 | w4
      · rw [if_pos w3, if_pos w3, if_pos w3, if_pos w3] at fin
        rw [if_pos w3]
        refine ⟨fun x => absurd x (by decide), fun _ x151 e151 => ?_⟩
        have ex : x151 = zi (al + 1) := by rw [e151, zi_lit, zi_add]
        rw [ex, wp_X4_readTimed_b170]
        refine ⟨fun x => absurd x (by decide), fun _ => ?_⟩
        rw [wp_X4_readTimed_b192v1]
        exact p_fillC hcf' hl' sr (hv z) (fun vals' => hexp ⟨Or.inr rfl, fin _ _ _ _ _ _ _ _ _ _⟩)
      · rw [if_neg (by omega), if_neg (by omega), if_neg (by omega), if_neg (by omega)] at fin
        rw [if_neg (by omega)]
        refine ⟨fun _ x167 e167 => ?_, fun x => absurd rfl x⟩
        have ex : x167 = zi (sl + 1) := by rw [e167, zi_lit, zi_add]
        rw [ex, wp_X4_readTimed_b170]
        refine ⟨fun _ => ?_, fun x => absurd rfl x⟩
        rw [wp_X4_readTimed_b192]
        exact p_fillC hcf' hl' sr (hv z) (fun vals' => hexp ⟨Or.inr rfl, fin _ _ _ _ _ _ _ _ _ _⟩)
    · obtain ⟨ej, hQ⟩ := hQ
      subst ej
      rw [wp_X4_wrong, forall_eq, show (1 : Int32) + 16 * zi (pos tp tz i') = _ from flt_c 1 _]
      refine ⟨Or.inl rfl, ?_⟩
      rcases hQ with ⟨z, y⟩ | ⟨z, y, x, _⟩ | ⟨z, y, _⟩
      · rw [if_pos z, ← y] at g1
        exact g1 (show (1 : Int) ≠ 0 by decide) _ _ _ _ _ _ _ _ _ _ _ _ _ _ _ _ _ _
      · exact absurd x (by decide)
      · exact absurd e39 y
  · intro i' k' hi' hk' hQ a b c d e e2
    obtain ⟨ej, hQ⟩ := hQ
    subst ej
    rw [wp_X4_wrong, forall_eq, flt_c]
    refine ⟨Or.inl rfl, ?_⟩
    rcases hQ with ⟨z, y⟩ | ⟨z, y, x, _⟩ | ⟨z, y, x⟩
    · rw [if_pos z, ← y] at g1
      exact g1 (show k' ≠ 0 by omega) _ _ _ _ _ _ _ _ _ _ _ _ _ _ _ _ _ _
    · omega
    · rw [sm z y] at g1
      rw [x]
      exact g1 (show (1 : Int) ≠ 0 by decide) _ _ _ _ _ _ _ _ _ _ _ _ _ _ _ _ _ _
end CL
