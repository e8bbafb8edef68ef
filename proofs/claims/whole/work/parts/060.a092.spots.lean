/-! spots: the class -/
/-- the best set: least sun, then fewest, then first -/
def cnd (v bt : Int → Int) (b T : Int) : Prop := v b < v T ∨ (v b = v T ∧ (bt b < bt T ∨ (bt b = bt T ∧ b ≤ T)))
def optS (v bt : Int → Int) (many N b : Int) : Prop := (0 ≤ b ∧ b < N) ∧ bt b ≤ many ∧ ∀ T, 0 ≤ T → T < N → bt T ≤ many → cnd v bt b T
theorem optS_uni {v bt : Int → Int} {many N b c : Int} (h : optS v bt many N b) (h' : optS v bt many N c) : b = c := by
  have a := h.2.2 c h'.1.1 h'.1.2 h'.2.1
  have e := h'.2.2 b h.1.1 h.1.2 h.2.1
  simp only [cnd] at a e
  omega
noncomputable def spC (v bt : Int → Int) (many N : Int) : Int := @dite _ (∃ b, optS v bt many N b) (Classical.propDecidable _) (fun h => Classical.choose h) (fun _ => 0)
theorem spC_eq {v bt : Int → Int} {many N b : Int} (h : optS v bt many N b) : spC v bt many N = b := by
  have h2 : ∃ b, optS v bt many N b := ⟨b, h⟩
  rw [spC, dif_pos h2]
  exact optS_uni (Classical.choose_spec h2) h
/-- the least sun with trees on the spots of a set -/
noncomputable def lsS (tw sp : Int → Int) (vf : Int → Int → Int → Int32) (d p to k0 h z S : Int) : Int := lsC (trG tw sp S 2 h z.toNat) vf d p to 119 k0
def p2 (z : Int) : Int := 2 ^ z.toNat
theorem p2_rng {z : Int} (hz : 0 ≤ z ∧ z ≤ 8) : 1 ≤ p2 z ∧ p2 z ≤ 256 := by
  have : ∀ n : Nat, n ≤ 8 → (1 : Int) ≤ 2 ^ n ∧ (2 : Int) ^ n ≤ 256 := by decide
  exact this z.toNat (by omega)
theorem p2_shl {z : Int} (hz : 0 ≤ z ∧ z ≤ 8) : ((1 : Int32) <<< (zi z &&& 31)) = zi (p2 z) := by
  have : ∀ n : Fin 9, ((1 : Int32) <<< (zi (n.val : Int) &&& 31)) = zi (2 ^ n.val) := by decide +kernel
  obtain ⟨n, rfl⟩ := Int.eq_ofNat_of_zero_le hz.1
  exact this ⟨n, by omega⟩
section SC
variable {pl : Pool} {tw sp : Int → Int} {vf : Int → Int → Int → Int32} {sl : Int} {kd hg : Int → Int} {wks suns : Nat → Option Nat} {shw : Nat → Int64} {ex nt : Int → Int} {ww sw gw : Nat → Int64} {op arg : Nat → Int32}
theorem p_addTrees (C : CS pl tw vf sl kd hg wks shw ex nt ww sw gw) (hb' : brR tw) (hs : suR pl tw suns) {ln : Int → Int} (hl : ∀ d m, 0 ≤ d → d < 4 → 0 ≤ m → m < 120 → ln (120 * d + m) = lnT tw d m) {z d h S : Int} (hz : spO tw sp z) (hd : 0 ≤ d ∧ d < 4) (hh : 1 ≤ h ∧ h ≤ 99) (hS : 0 ≤ S ∧ S < p2 z) {dw0 sh0 : Nat → Int64} {post : (Nat → Int64) → (Nat → Int64) → Prop}
    (hp : ∀ dw' sh' : Nat → Int64, (∀ m s, 0 ≤ m → m < 120 → 0 ≤ s → s < 100 → (hb dw' m s = true ↔ dimP (trG tw sp S 2 h z.toNat) vf d m s)) → post dw' sh') : wp_X3_addTrees pl (zi d) shw (zi (tw 261)) (zi z) (zA sp) suns (zA ln) dw0 sh0 (zi S) (zi h) post := by
  have pr := p2_rng hz.1
  have zr := hz.1
  have hT := C.1.1
  simp only [wp_X3_addTrees]
  refine p_takeShade hd (fun dw1 hdw1 => ?_)
  refine lp_inv (fun i st => ∃ dw' sh' : Nat → Int64, st = (dw', sh', zi S, zi h, zi i) ∧ ∀ m s, 0 ≤ m → m < 120 → 0 ≤ s → s < 100 → (hb dw' m s = true ↔ dimP (trG tw sp S 2 h (if (i : Int) ≤ z then i else z.toNat)) vf d m s)) 8 ?_ ?_ 0 (Nat.zero_le _) ⟨dw1, sh0, rfl, fun m s a b c e => ?_⟩
  · rintro st ⟨dw', sh', rfl, hw⟩ kb
    simp (disch := omega) only [wp_X3_addTrees_L9, zi_lit, zi_le]
    refine ⟨fun _ => hp dw' sh' (fun m s a b c e => ?_), fun y => absurd (by decide) y⟩
    have := hw m s a b c e
    by_cases q : ((8 : Nat) : Int) ≤ z
    · rw [if_pos q] at this
      rw [this, show z.toNat = 8 by omega]
    · rw [if_neg q] at this; exact this
  · rintro i hi st ⟨dw', sh', rfl, hw⟩ kb hkb
    have hni : ((i + 1 : Nat) : Int) = (i : Int) + 1 := by omega
    simp only [wp_X3_addTrees_L9]
    rw [bit_zi (by omega) hi]
    have b01' := btS_01 S i
    simp (disch := omega) only [zi_lit, zi_le, zi_eq, forall_eq, zi_add]
    refine ⟨fun y => by omega, fun _ => ⟨fun y => ?_, fun y => ?_⟩⟩
    · refine hkb _ ⟨dw', sh', by rw [hni], fun m s a b c e => ?_⟩
      rw [hw m s a b c e]
      by_cases q : (i : Int) < z
      · rw [if_pos (by omega), if_pos (by omega), trG, if_neg (by omega)]
      · by_cases q2 : (i : Int) = z
        · rw [if_pos (by omega), if_neg (by omega), show z.toNat = i by omega]
        · rw [if_neg (by omega), if_neg (by omega)]
    · have hiz : (i : Int) < z := by
        refine Classical.byContradiction (fun q => ?_)
        exact y (btS_hi (n := z.toNat) hS (by omega))
      have si := hz.2 i (by omega) hiz
      have zz := hz.1
      refine p_at (by decide) (by omega) (by omega) (fun _ _ => ?_) (fun q => absurd ⟨by omega, hiz⟩ q)
      rw [if_pos (show (i : Int) ≤ z by omega)] at hw
      have ag := trG_ag (S := S) (K := 2) (H := h) hz i (by omega)
      have hTv := trG_R (S := S) (K := 2) (H := h) hT hz (by omega) (by omega) i (by omega)
      have hbv := trG_br (S := S) (K := 2) (H := h) hz hb' (by omega) (n := i) (by omega)
      have bare := trG_bare (S := S) (K := 2) (H := h) hz (n := i) hiz
      rw [← ag 261 (by omega)]
      refine p_addTree hTv (suR_ag hs ag) (fun d m a b c e => by rw [lnT_ag ag]; exact hl d m a b c e) hd si.1 (by omega) (fun sh2 dw2 hd2 => ?_)
      refine hkb _ ⟨dw2, sh2, by rw [hni], fun m s a b c e => ?_⟩
      rw [hd2 m s a b c (by omega), hw m s a b c e, if_pos (by omega), trG, if_pos (by omega), dim_put hTv hbv si.1 bare (by omega) (by omega) ⟨c, e⟩]
  · rw [if_pos (by omega)]
    exact dwR_dim C hd hdw1 a b c e
theorem trG_0 (h : Int) : ∀ n : Nat, trG tw sp 0 2 h n = tw
  | 0 => rfl
  | n + 1 => by
    rw [trG, if_neg, trG_0 h n]
    rw [btS]; simp
theorem dim_sub (hT : twR tw) (hb' : brR tw) {z h S S' d : Int} (hz : spO tw sp z) (hh : 1 ≤ h ∧ h ≤ 99) (hss : ∀ i, btS S i = 1 → btS S' i = 1) : ∀ n : Nat, (n : Int) ≤ z → ∀ m s, 0 ≤ s → s < 100 → dimP (trG tw sp S 2 h n) vf d m s → dimP (trG tw sp S' 2 h n) vf d m s
  | 0, _, m, s, _, _, q => q
  | n + 1, hn, m, s, s0, s1, q => by
    have ih := dim_sub (d := d) hT hb' hz hh hss n (by omega) m s s0 s1
    have sn := hz.2 n (by omega) (by omega)
    have f : ∀ R, (dimP (trG tw sp R 2 h (n + 1)) vf d m s ↔ dimP (trG tw sp R 2 h n) vf d m s ∨ (btS R n = 1 ∧ tsP tw d m (sp n) h s)) := by
      intro R
      have hTv := trG_R (S := R) (K := 2) (H := h) hT hz (by omega) (by omega) n (by omega)
      have hbv := trG_br (S := R) (K := 2) (H := h) hz hb' (by omega) (n := n) (by omega)
      have bare := trG_bare (S := R) (K := 2) (H := h) hz (n := n) (by omega)
      have ag := trG_ag (S := R) (K := 2) (H := h) hz n (by omega)
      rw [trG]
      by_cases b : btS R n = 1
      · rw [if_pos b, dim_put hTv hbv sn.1 bare (by omega) (by omega) ⟨s0, s1⟩]
        have e : tsP (trG tw sp R 2 h n) d m (sp n) h s ↔ tsP tw d m (sp n) h s := by
          simp only [tsP]
          rw [lnT_ag ag]
          by_cases l0 : 0 ≤ lnT tw d m
          · rw [ag _ (by omega), ag _ (by omega), ag _ (by omega)]
          · exact ⟨fun y => absurd y.1 l0, fun y => absurd y.1 l0⟩
        rw [e]
        exact ⟨fun y => by rcases y with y | y; exact Or.inl y; exact Or.inr ⟨b, y⟩, fun y => by rcases y with y | y; exact Or.inl y; exact Or.inr y.2⟩
      · rw [if_neg b]
        exact ⟨Or.inl, fun y => by rcases y with y | y; exact y; exact absurd y.1 b⟩
    rw [f] at q ⊢
    rcases q with q | q
    · exact Or.inl (ih q)
    · exact Or.inr ⟨hss n q.1, q.2⟩
/-- what the sets do for a trip -/
theorem lsS_ok (hT : twR tw) (hb' : brR tw) {z h d p to k0 : Int} (hp : 1 ≤ p ∧ p ≤ 3) (hz : spO tw sp z) (hh : 1 ≤ h ∧ h ≤ 99) (h0 : 0 ≤ k0) (h1 : k0 < 12000) : lsS tw sp vf d p to k0 h z 0 = lsC tw vf d p to 119 k0 ∧ ∀ S, 0 ≤ S → S < p2 z → 0 ≤ lsS tw sp vf d p to k0 h z S ∧ lsS tw sp vf d p to k0 h z S ≤ lsC tw vf d p to 119 k0 ∧ lsS tw sp vf d p to k0 h z (p2 z - 1) ≤ lsS tw sp vf d p to k0 h z S := by
  have zz := hz.1
  have e0 : lsS tw sp vf d p to k0 h z 0 = lsC tw vf d p to 119 k0 := by rw [lsS, trG_0]
  refine ⟨e0, fun S s0 s1 => ⟨lsC_nn hp h0 h1, ?_, ?_⟩⟩
  · have ag := trG_ag (S := S) (K := 2) (H := h) hz z.toNat (by omega)
    refine lsC_mono hp ag (trG_same hz (by omega) (by omega)) (fun m s a b q => ?_) h0 h1
    refine dim_sub hT hb' hz hh (S := 0) (fun i y => ?_) z.toNat (by omega) m s a b ?_
    · rw [btS] at y; simp at y
    · rw [trG_0]; exact q
  · have ag := trG_ag (S := S) (K := 2) (H := h) hz z.toNat (by omega)
    have ag2 := trG_ag (S := p2 z - 1) (K := 2) (H := h) hz z.toNat (by omega)
    refine lsC_mono hp (fun k hk => by rw [ag k hk, ag2 k hk]) (fun s a b => ?_) (fun m s a b q => ?_) h0 h1
    · rw [trG_same hz (by omega) (by omega) s a b, trG_same hz (by omega) (by omega) s a b]
    · refine dim_sub hT hb' hz hh (fun i y => ?_) z.toNat (by omega) m s a b q
      by_cases hi : i < z.toNat
      · exact btS_full hi (by omega)
      · rw [btS_hi (n := z.toNat) ⟨s0, s1⟩ (by omega)] at y; exact absurd y (by decide)
end SC
