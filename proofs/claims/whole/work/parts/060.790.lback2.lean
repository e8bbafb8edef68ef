/-! the class's labelBack -/
section LB
variable {eb : Bool} {day to hot cool wt aims : Int} {dw : Nat → Int64} {ex nt tw sh : Int → Int} {sl : Int} {ww sw gw lw : Nat → Int64} {p bears mends en nw lim : Int}
/-- the words from which the nodes to be labelled are read -/
def dR (fo : Int) (gw lw : Nat → Int64) (D : Int → Bool) : Prop := (fo = 0 → ∀ m s, 0 ≤ m → m < 120 → 0 ≤ s → s < 128 → hb gw 0 s = (decide (s < 100) && D (100 * m + s))) ∧ (fo ≠ 0 → LR lw D)
theorem p_labelBack (A : Ask day to hot cool wt aims ex nt tw sh sl sw p bears mends en) (ha : aims ≠ 3) {fo : Int} (hfo : 0 ≤ fo ∧ fo ≤ 1) {D : Int → Bool} (hD : dR fo gw lw D) (hDt : ∀ k, 0 ≤ k → k < 12000 → D k = true → tw (k % 100) ≠ 1) {La0 : Int → Int} {lo hi : Int} (hlo : 0 ≤ lo) (hlh : lo ≤ hi) (hhi : hi ≤ 119) {post : (Nat → Int32) → Prop}
    (h : ∀ La : Int → Int, laR lo hi La → (∀ j, 0 ≤ j → j < 12000 → lo ≤ j / 100 → j / 100 ≤ hi → (D j = true → laO (nxT tw sh p) (csT (costF eb hot cool dw ex) p) D to hi La j) ∧ (D j = false → La j = 268435456)) → (∀ j, ¬ (lo ≤ j / 100 ∧ j / 100 ≤ hi ∧ 0 ≤ j ∧ j < 12000) → La j = La0 j) → post (zA La)) :
    wp_X9_labelBack eb (zi day) (zi to) (zi hot) (zi cool) (zi aims) gw (zA nt) (zi sl) sw dw (zA ex) lw (zi p) (zi bears) (zi mends) (zA La0) (zi lo) (zi hi) (zi fo) post := by
  have hp := A.2.2.2.2.2.2.2.2.2.2.2.1
  have hcB : cB (costF eb hot cool dw ex) := cB_cost A.2.2.1 A.2.2.2.1 A.2.2.2.2.2.2.1
  have G := Gok_T (tw := tw) (sh := sh) (nw := 5) hp hcB
  have e1 : (if (0 : Int32) < zi lo then zi lo else 0) = zi lo := by
    by_cases q : 0 < lo
    · rw [if_pos (by rw [zi_lit, zi_lt (by omega)]; exact q)]
    · rw [if_neg (by rw [zi_lit, zi_lt (by omega)]; exact q), show lo = 0 by omega]; rfl
  have e2 : (if (119 : Int32) < zi hi then (119 : Int32) else zi hi) = zi hi := by rw [if_neg (by rw [zi_lit, zi_lt (by omega)]; omega)]
  simp only [wp_X9_labelBack, forall_eq, e1, e2]
  rw [zi_le (by omega)]
  refine ⟨fun _ => ?_, fun z => absurd hlh z⟩
  simp only [zi_lit, zi_add, zi_mul]
  refine p_fill3 (by decide) (by omega) ?_
  rw [show lo * 100 = 100 * lo by omega, show (hi + 1) * 100 = 100 * (hi + 1) by omega]
  have hn4 : ∀ m s, 0 ≤ m → m ≤ 119 → 0 ≤ s → s < 100 → D (100 * m + s) = true → (m < hi → nxT tw sh p (100 * m + s) 4 = 100 * m + s + 100) ∧ (¬ m < hi → ¬ (0 ≤ nxT tw sh p (100 * m + s) 4 ∧ nxT tw sh p (100 * m + s) 4 / 100 ≤ hi)) := by
    intro m s m0 m1 s0 s1 hd
    have ht := hDt (100 * m + s) (by omega) (by omega) hd
    have e : nxT tw sh p (100 * m + s) 4 = if m + 1 > 119 then -1 else 100 * (m + 1) + s := by
      rw [show (100 * m + s) % 100 = s by omega] at ht
      simp only [nxT, bhd, show (100 * m + s) / 100 = m by omega, show (100 * m + s) % 100 = s by omega, plen, if_true]
      by_cases q : m + 1 > 119
      · rw [if_pos q, if_pos (Or.inl q)]
      · rw [if_neg q, if_neg (by intro r; rcases r with r | r | r | r; exact q r; omega; exact ht r; exact r.1 rfl)]
    rw [e]
    refine ⟨fun z => by rw [if_neg (by omega)]; omega, fun z => ?_⟩
    split <;> omega
  refine lp_inv (fun i s' => ∃ La : Int → Int, s' = (zA La, zi fo, zi lo, zi hi, zi (hi - i)) ∧ laI (nxT tw sh p) (csT (costF eb hot cool dw ex) p) D to lo hi La0 La (hi - i) 0) (hi - lo + 1).toNat ?_ ?_ 0 (Nat.zero_le _) ?_
  · rintro s' ⟨La, rfl, hI⟩ kb
    have e : hi - (((hi - lo + 1).toNat : Nat) : Int) = lo - 1 := by omega
    rw [e] at hI ⊢
    simp (disch := omega) only [wp_X9_labelBack_L48, zi_lt]
    refine ⟨fun _ => h La (laI_R G hlo hhi hI) (fun j a b c d => (hI.1 j a b c d).1 (Or.inl (by omega))) hI.2, fun z => by omega⟩
  · rintro i hi2 s' ⟨La, rfl, hI⟩ kb hkb
    have em : hi - ((i + 1 : Nat) : Int) = hi - i + -1 := by omega
    have hmr : lo ≤ hi - i ∧ hi - i ≤ hi := by omega
    generalize hmg : hi - (i : Int) = m at *
    simp (disch := omega) only [wp_X9_labelBack_L48, zi_lt]
    refine ⟨fun z => by omega, fun _ => ?_⟩
    refine lp_inv (fun hf s' => ∃ La : Int → Int, s' = (zA La, zi fo, zi lo, zi hi, zi m, zi hf) ∧ laI (nxT tw sh p) (csT (costF eb hot cool dw ex) p) D to lo hi La0 La m (64 * hf)) 2 ?_ ?_ 0 (Nat.zero_le _) ⟨La, rfl, by simpa using hI⟩
    · rintro s' ⟨La2, rfl, hI2⟩ kb2
      simp (disch := omega) only [wp_X9_labelBack_L58, zi_lit, zi_neg, zi_le, forall_eq, zi_add]
      refine ⟨fun _ => hkb _ ⟨La2, by rw [em], ?_⟩, fun z => absurd (by decide) z⟩
      refine ⟨fun j a b c d => ?_, hI2.2⟩
      have q := hI2.1 j a b c d
      exact ⟨fun z => q.1 (by omega), fun z => q.2 (by omega)⟩
    · rintro hf hhf s' ⟨La2, rfl, hI2⟩ kb2 hkb2
      have nxt : ∀ La3 : Int → Int, laI (nxT tw sh p) (csT (costF eb hot cool dw ex) p) D to lo hi La0 La3 m (64 * (hf : Int) + 64) → kb2 (zA La3, zi fo, zi lo, zi hi, zi m, zi ((hf : Int) + 1)) := by
        intro La3 q
        refine hkb2 _ ⟨La3, rfl, ?_⟩
        rwa [show (64 : Int) * ((hf + 1 : Nat) : Int) = 64 * (hf : Int) + 64 by omega]
      have bits : ∀ x : Int64, (∀ b : Nat, b < 64 → lb x b = (decide (64 * (hf : Int) + b < 100) && D (100 * m + (64 * hf + b)))) → ∃ n, lp (wp_X9_labelBack_L100 (fun t_labels l3 l4 l5 l6 l7 => ∀ y148 : Int32, y148 = l7 + 1 → (kb2 (t_labels, l3, l4, l5, l6, y148))) eb (zi day) (zi to) (zi hot) (zi cool) (zi aims) gw (zA nt) (zi sl) sw dw (zA ex) lw (zi p) (zi bears) (zi mends) post) n (zA La2, zi fo, zi lo, zi hi, zi m, zi hf, x, 0) := by
        intro x hx
        refine lp_inv (fun j s' => ∃ (t : Nat) (La3 : Int → Int) (left : Int64), s' = (zA La3, zi fo, zi lo, zi hi, zi m, zi hf, left, zi j) ∧ laI (nxT tw sh p) (csT (costF eb hot cool dw ex) p) D to lo hi La0 La3 m (64 * (hf : Int) + t) ∧ j ≤ t ∧ t ≤ 64 ∧ ∀ b, b < 64 → lb left b = (decide (t ≤ b) && (decide (64 * (hf : Int) + b < 100) && D (100 * m + (64 * hf + b))))) 64 ?_ ?_ 0 (Nat.zero_le _) ⟨0, La2, x, rfl, by simpa using hI2, Nat.le_refl _, Nat.zero_le _, fun b hb => by simpa using hx b hb⟩
        · rintro s' ⟨t, La3, left, rfl, h3, ht1, ht2, hbit⟩ kb3
          have : t = 64 := by omega
          subst this
          simp (disch := omega) only [wp_X9_labelBack_L100, zi_lit, zi_le, forall_eq, zi_add]
          exact ⟨fun _ => nxt La3 h3, fun z => absurd (by decide) z⟩
        · rintro j hj s' ⟨t, La3, left, rfl, h3, ht1, ht2, hbit⟩ kb3 hkb3
          simp (disch := omega) only [wp_X9_labelBack_L100, zi_lit, zi_le]
          refine ⟨fun z => by omega, fun _ => ⟨fun z => ?_, fun z => ?_⟩⟩
          · have hl0 : left = 0 := (lg_cmp_eq left 0).mp z
            simp only [forall_eq, zi_add]
            refine nxt La3 (laI_skip h3 (by omega) (fun s s0 s1 s2 s3 => ?_))
            have := hbit (s - 64 * hf).toNat (by omega)
            rw [hl0, lb_0, decide_eq_true (by omega), decide_eq_true (by omega)] at this
            rw [show 64 * (hf : Int) + (((s - 64 * (hf : Int)).toNat : Nat) : Int) = s by omega] at this
            simpa using this.symm
          · have hl0 : left ≠ 0 := fun e => z ((lg_cmp_eq left 0).mpr e)
            obtain ⟨b, b64, bt, blow⟩ := lb_low hl0
            have hb1 := hbit b b64
            rw [bt] at hb1
            have hb2 : t ≤ b ∧ 64 * (hf : Int) + b < 100 ∧ D (100 * m + (64 * hf + b)) = true := by
              have := hb1.symm
              simp only [Bool.and_eq_true, decide_eq_true_eq] at this
              exact this
            refine p_lowest b64 blow bt ?_
            have sk : laI (nxT tw sh p) (csT (costF eb hot cool dw ex) p) D to lo hi La0 La3 m (64 * (hf : Int) + b) := by
              refine laI_skip h3 (by omega) (fun s s0 s1 s2 s3 => ?_)
              have := hbit (s - 64 * hf).toNat (by omega)
              rw [blow _ (by omega), decide_eq_true (by omega), decide_eq_true (by omega)] at this
              rw [show 64 * (hf : Int) + (((s - 64 * (hf : Int)).toNat : Nat) : Int) = s by omega] at this
              simpa using this.symm
            simp only [zi_mul, zi_add]
            refine p_label A ha (laI_R G hlo hhi h3) (by omega) (by omega) (by omega) hhi ?_
            simp only [forall_eq]
            have n4 := hn4 m (64 * hf + b) (by omega) (by omega) (by omega) hb2.2.1 hb2.2.2
            have nd := laI_node hp G hlo hhi hmr (by omega) n4.1 n4.2 hb2.2.2 sk
            refine hkb3 _ ⟨b + 1, _, left &&& (left - 1), rfl, ?_, by omega, by omega, fun c c64 => ?_⟩
            · rwa [show 64 * (hf : Int) + ((b + 1 : Nat) : Int) = 64 * (hf : Int) + b + 1 by omega]
            · rw [lb_drop blow c64 bt, hbit c c64]
              by_cases hcb : c = b
              · subst hcb; rw [decide_eq_false (show ¬ c + 1 ≤ c by omega)]; simp
              · by_cases hcl : c < b
                · have h0 : (decide (t ≤ c) && (decide (64 * (hf : Int) + c < 100) && D (100 * m + (64 * hf + c)))) = false := by rw [← hbit c c64, blow c hcl]
                  rw [h0, decide_eq_false (show ¬ b + 1 ≤ c by omega)]
                  rfl
                · rw [decide_eq_true (show t ≤ c by omega), decide_eq_true (show b + 1 ≤ c by omega), decide_eq_true hcb, Bool.and_true]
      simp (disch := omega) only [wp_X9_labelBack_L58, zi_lit, zi_le, zi_eq]
      simp only [zi_lit] at bits
      refine ⟨fun z => by omega, fun _ => ⟨fun z => ?_, fun z => ?_⟩⟩
      · refine p_word (by decide) (by omega) (by omega) (bits _ (fun b b64 => ?_))
        rw [lb_wrd (by omega) (by omega) b64, hD.1 z m (64 * hf + b) (by omega) (by omega) (by omega) (by omega)]
      · refine p_word (by decide) (by omega) (by omega) (bits _ (fun b b64 => ?_))
        rw [lb_wrd (by omega) (by omega) b64, hD.2 z m (64 * hf + b) (by omega) (by omega) (by omega) (by omega)]
  · refine ⟨flA La0 (100 * lo) (100 * (hi + 1)) 268435456, by simp, ?_⟩
    refine ⟨fun j a b c d => ⟨fun z => by omega, fun z => flA_in (by omega)⟩, fun j hj => flA_out (by omega)⟩
end LB
