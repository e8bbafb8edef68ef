/-! the class's scan -/
section SCN
variable {tp : Int → Int} {tz : Int}
theorem p_isLt {c : Int} (hc : -2147483648 ≤ c ∧ c < 2147483648) {post : Int32 → Prop} (h1 : lB c = true → post 1) (h0 : ¬ lB c = true → post 0) : wp_X4_isLetter (zi c) post := by
  rw [lB_t] at h1 h0
  simp (disch := omega) only [wp_X4_isLetter, zi_lit, zi_lt]
  exact ⟨fun z => h0 (by omega), fun z => ⟨fun y => h0 (by omega), fun y => h1 (by omega)⟩⟩
theorem p_isDg {c : Int} (hc : -2147483648 ≤ c ∧ c < 2147483648) {post : Int32 → Prop} (h1 : dgB c = true → post 1) (h0 : ¬ dgB c = true → post 0) : wp_X4_isDigit (zi c) post := by
  rw [gB_t] at h1 h0
  simp (disch := omega) only [wp_X4_isDigit, zi_lit, zi_lt]
  exact ⟨fun z => h0 (by omega), fun z => ⟨fun y => h0 (by omega), fun y => h1 (by omega)⟩⟩
theorem p_isBl {c : Int} (hc : -2147483648 ≤ c ∧ c < 2147483648) {post : Int32 → Prop} (h1 : bB c = true → post 1) (h0 : ¬ bB c = true → post 0) : wp_X4_isBlank (zi c) post := by
  rw [bB_t] at h1 h0
  simp (disch := omega) only [wp_X4_isBlank, zi_lit, zi_eq]
  exact ⟨fun z => h1 (by omega), fun z => ⟨fun y => h0 (by omega), fun y => h1 (by omega)⟩⟩
theorem p_addTok {m : Int} {f g h : Int → Int} {a b c : Int} (hm : 0 ≤ m ∧ m < 1001) {post : Int32 → (Nat → Int32) → Int32 → (Nat → Int32) → Int32 → (Nat → Int32) → Prop} (hp : post (zi (m + 1)) (zA (upI f m a)) (zi (m + 1)) (zA (upI g m b)) (zi (m + 1)) (zA (upI h m c))) : wp_X4_addToken (zi m) (zA f) (zi m) (zA g) (zi m) (zA h) (zi a) (zi b) (zi c) post := by
  rw [wp_X4_addToken]
  refine p_add (by decide) (by omega) (fun _ => ?_) (fun z => by omega)
  refine p_add (by decide) (by omega) (fun _ => ?_) (fun z => by omega)
  exact p_add (by decide) (by omega) (fun _ => hp) (fun z => by omega)
theorem p_scanWord {m k : Int} {f g h : Int → Int} (hz : 0 ≤ tz ∧ tz ≤ 1000) (ht : i32 tp) (hk : 0 ≤ k ∧ k ≤ tz) (hm : 0 ≤ m ∧ m < 1001) {post : Int32 → Int32 → (Nat → Int32) → Int32 → (Nat → Int32) → Int32 → (Nat → Int32) → Prop} (hp : post (zi (rE lB tp tz k)) (zi (m + 1)) (zA (upI f m (wdK tp tz k))) (zi (m + 1)) (zA (upI g m 0)) (zi (m + 1)) (zA (upI h m k))) : wp_X4_scanWord (zi tz) (zA tp) (zi m) (zA f) (zi m) (zA g) (zi m) (zA h) (zi k) post := by
  have r := rE_rng (p := lB) (tp := tp) hk.2
  rw [wp_X4_scanWord]
  refine lp_for0 (fun t => (zi m, zA f, zi m, zA g, zi m, zA h, zi k, zi (k + t), zi t)) (rE lB tp tz k - k).toNat ?_ ?_ ?_
  · simp only [Int.natCast_zero, Int.add_zero]; rfl
  · intro kb
    have ex : wp_X4_scanWord_b34 (zi tz) (zA tp) post (zi m) (zA f) (zi m) (zA g) (zi m) (zA h) (zi k) (zi (k + ((rE lB tp tz k - k).toNat : Nat))) := by
      rw [wp_X4_scanWord_b34, zi_sub]
      refine p_tword hz ht hk.1 (by omega) (by omega) ?_
      rw [show (k + ((rE lB tp tz k - k).toNat : Int) - k).toNat = (rE lB tp tz k - k).toNat by omega]
      refine p_addTok (b := 0) hm ?_
      rw [show k + ((rE lB tp tz k - k).toNat : Int) = rE lB tp tz k by omega]
      exact hp
    dsimp only [wp_X4_scanWord_L4]
    simp (disch := omega) only [zi_lit, zi_le]
    refine ⟨fun _ => ex, fun _ => ?_⟩
    refine p_at (by decide) hz (by omega) (fun a b => ?_) (fun _ => ?_)
    · refine p_isLt (ht _) (fun q => ?_) (fun q => ⟨fun _ => ex, fun z => absurd rfl z⟩)
      have := rE_at (p := lB) (tp := tp) hk.2 (by omega)
      rw [show k + ((rE lB tp tz k - k).toNat : Int) = rE lB tp tz k by omega] at q
      exact absurd q this
    · rw [show (-1 : Int32) = zi (-1) from rfl]
      exact p_isLt (by omega) (fun q => absurd q (by decide)) (fun q => ⟨fun _ => ex, fun z => absurd rfl z⟩)
  · intro t hi kb hkb
    dsimp only [wp_X4_scanWord_L4]
    simp (disch := omega) only [forall_eq, zi_lit, zi_le, zi_add]
    refine ⟨fun z => by omega, fun _ => ?_⟩
    refine p_at (by decide) hz (by omega) (fun a b => ?_) (fun z => by omega)
    refine p_isLt (ht _) (fun q => ⟨fun z => absurd z (by decide), fun _ => ?_⟩) (fun q => absurd (rE_run (tz := tz) (k := k) (by omega) (by omega)) q)
    have e : k + (t : Int) + 1 = k + ((t + 1 : Nat) : Int) := by omega
    rw [e]; exact hkb
theorem p_scanNum {m k : Int} {f g h : Int → Int} (hz : 0 ≤ tz ∧ tz ≤ 1000) (ht : i32 tp) (hk : 0 ≤ k ∧ k ≤ tz) (hm : 0 ≤ m ∧ m < 1001) {post : Int32 → Int32 → (Nat → Int32) → Int32 → (Nat → Int32) → Int32 → (Nat → Int32) → Prop} (hp : post (zi (rE dgB tp tz k)) (zi (m + 1)) (zA (upI f m (if rE dgB tp tz k - k ≤ 4 then 50 else 52))) (zi (m + 1)) (zA (upI g m (ns tp k (rE dgB tp tz k - k).toNat))) (zi (m + 1)) (zA (upI h m k))) : wp_X4_scanNumber (zi tz) (zA tp) (zi m) (zA f) (zi m) (zA g) (zi m) (zA h) (zi k) post := by
  have r := rE_rng (p := dgB) (tp := tp) hk.2
  rw [wp_X4_scanNumber]
  refine lp_for0 (fun t => (zi m, zA f, zi m, zA g, zi m, zA h, zi k, zi (k + t), zi (ns tp k t), zi t)) (rE dgB tp tz k - k).toNat ?_ ?_ ?_
  · simp only [Int.natCast_zero, Int.add_zero]; rfl
  · intro kb
    have ex : wp_X4_scanNumber_b65 (zi tz) (zA tp) post (zi m) (zA f) (zi m) (zA g) (zi m) (zA h) (zi k) (zi (k + ((rE dgB tp tz k - k).toNat : Nat))) (zi (ns tp k (rE dgB tp tz k - k).toNat)) := by
      simp only [wp_X4_scanNumber_b65, wp_X4_scanNumber_b80]
      simp (disch := omega) only [zi_lit, zi_sub, zi_le]
      refine ⟨fun q => p_addTok hm ?_, fun q => p_addTok hm ?_⟩
      · rw [if_pos (by omega)] at hp
        rw [show k + ((rE dgB tp tz k - k).toNat : Int) = rE dgB tp tz k by omega]
        exact hp
      · rw [if_neg (by omega)] at hp
        rw [show k + ((rE dgB tp tz k - k).toNat : Int) = rE dgB tp tz k by omega]
        exact hp
    dsimp only [wp_X4_scanNumber_L7]
    simp (disch := omega) only [zi_lit, zi_le]
    refine ⟨fun _ => ex, fun _ => ?_⟩
    refine p_at (by decide) hz (by omega) (fun a b => ?_) (fun _ => ?_)
    · refine p_isDg (ht _) (fun q => ?_) (fun q => ⟨fun _ => ex, fun z => absurd rfl z⟩)
      have := rE_at (p := dgB) (tp := tp) hk.2 (by omega)
      rw [show k + ((rE dgB tp tz k - k).toNat : Int) = rE dgB tp tz k by omega] at q
      exact absurd q this
    · rw [show (-1 : Int32) = zi (-1) from rfl]
      exact p_isDg (by omega) (fun q => absurd q (by decide)) (fun q => ⟨fun _ => ex, fun z => absurd rfl z⟩)
  · intro t hi kb hkb
    have e : k + (t : Int) + 1 = k + ((t + 1 : Nat) : Int) := by omega
    have e2 : (t : Int) + 1 = ((t + 1 : Nat) : Int) := by omega
    rw [show ns tp k (t + 1) = if t < 4 then 10 * ns tp k t + tp (k + t) - 48 else ns tp k t from rfl] at hkb
    dsimp only [wp_X4_scanNumber_L7]
    simp (disch := omega) only [forall_eq, zi_lit, zi_le, zi_add]
    refine ⟨fun z => by omega, fun _ => ?_⟩
    refine p_at (by decide) hz (by omega) (fun a b => ?_) (fun z => by omega)
    refine p_isDg (ht _) (fun q => ⟨fun z => absurd z (by decide), fun _ => ⟨fun z => ?_, fun z => ?_⟩⟩) (fun q => absurd (rE_run (tz := tz) (k := k) (by omega) (by omega)) q)
    · rw [if_neg (by omega)] at hkb
      rw [e, e2]; exact hkb
    · rw [if_pos (by omega)] at hkb
      refine p_at (by decide) hz (by omega) (fun _ _ => ?_) (fun z => by omega)
      rw [zi_mul, zi_add, zi_sub, e, e2]; exact hkb
theorem kSg : kByt.getD 1 [] = [40, 41, 60, 61, 43, 45, 42, 59].map zi := rfl
theorem p_len1 {post : Int32 → Prop} (h : post (zi 8)) : wp_J0_length_8abf5 1 post := by
  simp only [wp_J0_length_8abf5, wp_J0_coder_7d493]
  exact ⟨fun z => absurd z (by decide), fun z => ⟨by decide, h⟩⟩
theorem chr_s : ∀ n : Fin 128, (Int32.toInt8 ((Int32.toUInt32 (zi n) % 65536).toInt32)).toInt32 = zi n ∧ (Int32.toUInt32 (zi n) % 65536).toInt32 = zi n := by decide
set_option maxRecDepth 20000 in
theorem p_sign {c : Int} (hc : 0 ≤ c ∧ c < 128) {post : Int32 → Prop} (h1 : ∀ r : Int, 0 ≤ r → r < 8 → sgK c = 32 + r → post (zi r)) (h0 : sgK c = 52 → post (-1)) : wp_J0_indexOf_0f7a4 1 ((Int32.toUInt32 (zi c) % 65536).toInt32) post := by
  have ck := chr_s ⟨c.toNat, by omega⟩
  simp only [show ((c.toNat : Nat) : Int) = c by omega] at ck
  obtain ⟨c1, c2⟩ := ck
  rw [c2] at c1
  rw [c2]
  have hl : kLen.getD 1 0 = 8 := rfl
  have hb : ∀ i : Nat, i < 8 → (kByt.getD 1 []).getD i 0 = zi ([40, 41, 60, 61, 43, 45, 42, 59].getD i 0) := by decide
  simp only [wp_J0_indexOf_0f7a4, wp_J0_indexOf_7cf53, wp_J0_isLatin1_aae02]
  refine ⟨fun z => absurd z (by decide), fun _ => ⟨fun z => absurd trivial z, fun _ => ⟨fun z => absurd z (by decide), fun _ => p_len1 ?_⟩⟩⟩
  simp only [wp_J1_indexOf_4cfef, wp_J1_canEncode_9a6ad]
  simp (disch := omega) only [zi_lit, zi_lt]
  refine ⟨fun z => by omega, fun _ => ⟨fun z => by omega, fun _ => ⟨fun _ x14 e14 x21 e21 => ⟨fun _ => ?_, fun z => ?_⟩, fun z => absurd z (by decide)⟩⟩⟩
  · have e14' : x14 = zi 0 := by rw [e14]; decide
    have e21' : x21 = zi 8 := by rw [e21, hl]; decide
    rw [e14', e21']
    simp only [wp_J1_indexOfChar_4cfef]
    rw [c1]
    intro x2 ex2
    rw [ex2]
    refine lp_inv (fun i s => s = (zi 8, zi c, zi i) ∧ ∀ j, j < i → c ≠ [40, 41, 60, 61, 43, 45, 42, 59].getD j 0) 8 ?_ ?_ 0 (by omega) ⟨rfl, fun j hj => by omega⟩
    · rintro s ⟨rfl, hn⟩ kb
      dsimp only [wp_J1_indexOfChar_4cfef_L7]
      simp (disch := omega) only [zi_le]
      refine ⟨fun _ => h0 ?_, fun z => by omega⟩
      have a0 := hn 0 (by omega); have a1 := hn 1 (by omega); have a2 := hn 2 (by omega); have a3 := hn 3 (by omega)
      have a4 := hn 4 (by omega); have a5 := hn 5 (by omega); have a6 := hn 6 (by omega); have a7 := hn 7 (by omega)
      simp at a0 a1 a2 a3 a4 a5 a6 a7
      rw [sgK, if_neg a0, if_neg a1, if_neg a2, if_neg a3, if_neg a4, if_neg a5, if_neg a6, if_neg a7]
    · rintro i hi s ⟨rfl, hn⟩ kb hkb
      dsimp only [wp_J1_indexOfChar_4cfef_L7]
      rw [zi_cl (by omega), Int.toNat_natCast, hb i hi]
      have rg : ∀ i : Nat, i < 8 → 0 ≤ [40, 41, 60, 61, 43, 45, 42, 59].getD i (0 : Int) ∧ [40, 41, 60, 61, 43, 45, 42, 59].getD i (0 : Int) < 128 := by decide
      have := rg i hi
      simp (disch := omega) only [forall_eq, zi_lit, zi_le, zi_in, zi_eq, zi_add]
      refine ⟨fun z => by omega, fun _ => ⟨by rw [hl]; omega, fun ne => ?_, fun ee => ?_⟩⟩
      · refine hkb _ ⟨rfl, fun j hj => ?_⟩
        by_cases e : j = i
        · rw [e]; exact fun z => ne z.symm
        · exact hn j (by omega)
      · refine h1 i (by omega) (by omega) ?_
        have fin : ∀ i : Nat, i < 8 → sgK ([40, 41, 60, 61, 43, 45, 42, 59].getD i (0 : Int)) = 32 + (i : Int) := by decide
        rw [← ee]; exact fin i hi
  · exact absurd (show x14 < x21 by rw [e14, e21, hl]; decide) z
end SCN
