/-! square, shade, shutAt, when, tell, clear, spot, follow: both sides -/
section SM
variable {pl : Pool} {tw : Int → Int} {vf : Int → Int → Int → Int32} {sl : Int} {kd hg : Int → Int} {wks : Nat → Option Nat} {shw : Nat → Int64} {ex nt : Int → Int} {ww sw gw : Nat → Int64} {op arg : Nat → Int32}
noncomputable def squareV (tw : Int → Int) (s what : Int) : Int := if (0 ≤ s ∧ s < 100) ∧ 0 ≤ what ∧ what ≤ 1 then tw (100 * what + s) else -1
theorem p_squareC (hK : kdR tw kd hg) {s what : Int} (a1 : ir s) (a2 : ir what) {post : Int32 → Prop} (h : post (zi (squareV tw s what))) : wp_X11_square (zA hg) (zA kd) (zi s) (zi what) post := by
  have b2 := a2
  simp only [ir] at b2
  simp only [wp_X11_square]
  refine p_isSquare a1 (fun q => ⟨fun z => absurd z (by decide), fun _ => ?_⟩) (fun q => ⟨fun _ => ?_, fun z => absurd rfl z⟩)
  · have k1 := hK.2.2 s q.1 q.2
    simp (disch := omega) only [zi_lit, zi_neg, zi_lt, zi_le, zi_eq, zi_in, zA_get, k1.1, k1.2]
    refine ⟨fun z => ?_, fun z => ⟨fun y => ⟨fun x => ⟨by omega, ?_⟩, fun x => ⟨by omega, ?_⟩⟩, fun y => ?_⟩⟩
    · rw [squareV, if_neg (by omega)] at h; exact h
    · rw [squareV, if_pos (by omega), show 100 * what + s = 100 + s by omega] at h; exact h
    · rw [squareV, if_pos (by omega), show 100 * what + s = s by omega] at h; exact h
    · rw [squareV, if_neg (by omega)] at h; exact h
  · rw [squareV, if_neg (fun y => q y.1)] at h; exact h
theorem p_squareR (hi : i32 tw) {s what : Int} (a1 : ir s) (a2 : ir what) {th : Int32} {post : Int32 → Int32 → Prop} (h : post (zi (squareV tw s what)) 0) : wp_X12_square (zA tw) th (zi s) (zi what) post := by
  simp only [wp_X12_square]
  refine p_isSquareR a1 (fun q => ⟨fun z => absurd z (by decide), fun _ => ?_⟩) (fun q => ⟨fun _ => ?_, fun z => absurd rfl z⟩)
  · rw [show (0 : Int32) = zi 0 from rfl, show (1 : Int32) = zi 1 from rfl]
    refine p_within a2 (by omega) (by omega) (fun w => ⟨fun z => absurd z (by decide), fun _ => ?_⟩) (fun w => ⟨fun _ => ?_, fun z => absurd rfl z⟩)
    · simp (disch := omega) only [forall_eq, zi_lit, zi_mul, zi_add, zi_in, zA_get]
      rw [squareV, if_pos ⟨q, w⟩] at h
      exact ⟨by omega, h⟩
    · rw [squareV, if_neg (fun y => w y.2)] at h; exact h
  · rw [squareV, if_neg (fun y => q y.1)] at h; exact h
noncomputable def atV (P : Int → Int → Int → Prop) (d m s : Int) : Int := @ite Int (((0 ≤ d ∧ d < 4) ∧ (0 ≤ m ∧ m < 120)) ∧ (0 ≤ s ∧ s < 100)) (Classical.propDecidable _) (@ite Int (P d m s) (Classical.propDecidable _) 1 0) (-1)
theorem has_wR {w : Nat → Int64} {P : Int → Int → Int → Prop} (hw : wR 960 w (fun r s => P (r / 120) (r % 120) s)) {d m s : Int} (hd : 0 ≤ d ∧ d < 4) (hm : 0 ≤ m ∧ m < 120) (hs : 0 ≤ s ∧ s < 100) {post : Int32 → Prop} (h1 : P d m s → post 1) (h0 : ¬ P d m s → post 0) : wp_X5_has 960 w (zi (120 * d + m)) (zi s) post := by
  refine p_has (by decide) (by omega) (by omega) ?_
  have q := hw (120 * d + m) s (by omega) (by omega) hs.1 (by omega)
  have q' : hb w (120 * d + m) s = true ↔ s < 100 ∧ P ((120 * d + m) / 120) ((120 * d + m) % 120) s := q
  rw [show (120 * d + m) / 120 = d by omega, show (120 * d + m) % 120 = m by omega] at q'
  rw [hbs, decide_eq_true (by omega), Bool.true_and]
  by_cases x : P d m s
  · rw [if_pos (q'.mpr ⟨hs.2, x⟩)]; exact h1 x
  · rw [if_neg (fun y => x (q'.mp y).2)]; exact h0 x
theorem p_shadeC (C : CS pl tw vf sl kd hg wks shw ex nt ww sw gw) {d m s : Int} (a1 : ir d) (a2 : ir m) (a3 : ir s) {post : Int32 → Prop} (h : post (zi (atV (dimP tw vf) d m s))) : wp_X11_shade shw (zi d) (zi m) (zi s) post := by
  simp only [wp_X11_shade]
  refine p_isTime a1 a2 (fun t => ⟨fun z => absurd z (by decide), fun _ => ?_⟩) (fun t => ⟨fun _ => ?_, fun z => absurd rfl z⟩)
  · refine p_isSquare a3 (fun q => ⟨fun _ => ?_, fun z => absurd z (by decide)⟩) (fun q => ⟨fun z => absurd rfl z, fun _ => ?_⟩)
    · refine p_row ?_
      rw [atV, if_pos ⟨t, q⟩] at h
      refine has_wR C.2.1 t.1 t.2 q (fun x => ⟨fun z => absurd z (by decide), fun _ => ?_⟩) (fun x => ⟨fun _ => ?_, fun z => absurd rfl z⟩)
      · rw [if_pos x] at h; exact h
      · rw [if_neg x] at h; exact h
    · rw [atV, if_neg (fun y => q y.2)] at h; exact h
  · rw [atV, if_neg (fun y => t y.1)] at h; exact h
theorem p_shutC (C : CS pl tw vf sl kd hg wks shw ex nt ww sw gw) {d m s : Int} (a1 : ir d) (a2 : ir m) (a3 : ir s) {post : Int32 → Prop} (h : post (zi (atV (fun d m s => clP tw vf 4 d m s (tw 200)) d m s))) : wp_X11_shutAt sw (zi d) (zi m) (zi s) post := by
  simp only [wp_X11_shutAt]
  refine p_isTime a1 a2 (fun t => ⟨fun z => absurd z (by decide), fun _ => ?_⟩) (fun t => ⟨fun _ => ?_, fun z => absurd rfl z⟩)
  · refine p_isSquare a3 (fun q => ⟨fun _ => ?_, fun z => absurd z (by decide)⟩) (fun q => ⟨fun z => absurd rfl z, fun _ => ?_⟩)
    · refine p_row ?_
      rw [atV, if_pos ⟨t, q⟩] at h
      refine has_wR (P := fun d m s => clP tw vf 4 d m s (tw 200)) C.2.2.2.2.2.2.1 t.1 t.2 q (fun x => ⟨fun z => absurd z (by decide), fun _ => ?_⟩) (fun x => ⟨fun _ => ?_, fun z => absurd rfl z⟩)
      · rw [if_pos x] at h; exact h
      · rw [if_neg x] at h; exact h
    · rw [atV, if_neg (fun y => q y.2)] at h; exact h
  · rw [atV, if_neg (fun y => t y.1)] at h; exact h
theorem p_shadeR (hT : twR tw) (hC : clR tw op arg vf) {d m s : Int} (a1 : ir d) (a2 : ir m) (a3 : ir s) {th : Int32} {facts pile : Nat → Int32} {post : Int32 → Int32 → (Nat → Int32) → (Nat → Int32) → Prop} (h : ∀ f p, post (zi (atV (dimP tw vf) d m s)) 0 f p) : wp_X12_shade (zA tw) op arg th facts pile (zi d) (zi m) (zi s) post := by
  simp only [wp_X12_shade]
  refine p_isDayR a1 (fun q1 => ⟨fun z => absurd z (by decide), fun _ => ?_⟩) (fun q1 => ⟨fun _ => ?_, fun z => absurd rfl z⟩)
  · refine p_isMinuteR a2 (fun q2 => ⟨fun z => absurd z (by decide), fun _ => ?_⟩) (fun q2 => ⟨fun _ => ?_, fun z => absurd rfl z⟩)
    · refine p_isSquareR a3 (fun q3 => ⟨fun z => absurd z (by decide), fun _ => ?_⟩) (fun q3 => ⟨fun _ => ?_, fun z => absurd rfl z⟩)
      · rw [atV, if_pos ⟨⟨q1, q2⟩, q3⟩] at h
        refine p_isDim hT hC q1 q2 q3 (fun x f p => ⟨fun z => absurd z (by decide), fun _ => ?_⟩) (fun x f p => ⟨fun _ => ?_, fun z => absurd rfl z⟩)
        · rw [if_pos x] at h; exact h f p
        · rw [if_neg x] at h; exact h f p
      · rw [atV, if_neg (fun y => q3 y.2)] at h; exact h _ _
    · rw [atV, if_neg (fun y => q2 y.1.2)] at h; exact h _ _
  · rw [atV, if_neg (fun y => q1 y.1.1)] at h; exact h _ _
theorem p_shutR (hT : twR tw) (hC : clR tw op arg vf) {d m s : Int} (a1 : ir d) (a2 : ir m) (a3 : ir s) {th : Int32} {facts pile : Nat → Int32} {post : Int32 → Int32 → (Nat → Int32) → (Nat → Int32) → Prop} (h : ∀ f p, post (zi (atV (fun d m s => clP tw vf 4 d m s (tw 200)) d m s)) 0 f p) : wp_X12_shutAt (zA tw) op arg th facts pile (zi d) (zi m) (zi s) post := by
  simp only [wp_X12_shutAt]
  refine p_isDayR a1 (fun q1 => ⟨fun z => absurd z (by decide), fun _ => ?_⟩) (fun q1 => ⟨fun _ => ?_, fun z => absurd rfl z⟩)
  · refine p_isMinuteR a2 (fun q2 => ⟨fun z => absurd z (by decide), fun _ => ?_⟩) (fun q2 => ⟨fun _ => ?_, fun z => absurd rfl z⟩)
    · refine p_isSquareR a3 (fun q3 => ⟨fun z => absurd z (by decide), fun _ => ?_⟩) (fun q3 => ⟨fun _ => ?_, fun z => absurd rfl z⟩)
      · rw [atV, if_pos ⟨⟨q1, q2⟩, q3⟩] at h
        rw [show (4 : Int32) = zi 4 from rfl]
        refine p_isClothed hT hC q1 q2 q3 (Or.inr rfl) (fun x f p => ⟨fun z => absurd z (by decide), fun _ => ?_⟩) (fun x f p => ⟨fun _ => ?_, fun z => absurd rfl z⟩)
        · rw [if_pos x] at h; exact h f p
        · rw [if_neg x] at h; exact h f p
      · rw [atV, if_neg (fun y => q3 y.2)] at h; exact h _ _
    · rw [atV, if_neg (fun y => q2 y.1.2)] at h; exact h _ _
  · rw [atV, if_neg (fun y => q1 y.1.1)] at h; exact h _ _
/-- the first minute from one on -/
def fstA (P : Int → Prop) (a T : Int) : Prop := (T = -1 ∧ ∀ m, a ≤ m → m < 120 → ¬ P m) ∨ ((a ≤ T ∧ T < 120) ∧ P T ∧ ∀ m, a ≤ m → m < T → ¬ P m)
theorem fstA_uni {P : Int → Prop} {a T T' : Int} (ha : 0 ≤ a) (h : fstA P a T) (h' : fstA P a T') : T = T' := by
  rcases h with h | ⟨h1, h2, h3⟩
  · rcases h' with h' | ⟨g1, g2, g3⟩
    · omega
    · exact absurd g2 (h.2 T' g1.1 g1.2)
  · rcases h' with h' | ⟨g1, g2, g3⟩
    · exact absurd h2 (h'.2 T h1.1 h1.2)
    · by_cases x : T < T'
      · exact absurd h2 (g3 T h1.1 x)
      · by_cases y : T' < T
        · exact absurd g2 (h3 T' g1.1 y)
        · omega
noncomputable def fstC (P : Int → Prop) (a : Int) : Int := @dite _ (∃ T, fstA P a T) (Classical.propDecidable _) (fun h => Classical.choose h) (fun _ => -1)
theorem fstC_eq {P : Int → Prop} {a T : Int} (ha : 0 ≤ a) (h : fstA P a T) : T = fstC P a := by
  have e : ∃ T, fstA P a T := ⟨T, h⟩
  rw [fstC, dif_pos e]
  exact fstA_uni ha h (Classical.choose_spec e)
noncomputable def whenV (tw : Int → Int) (vf : Int → Int → Int → Int32) (d m s want : Int) : Int := @ite Int (((0 ≤ d ∧ d < 4) ∧ (0 ≤ m ∧ m < 120)) ∧ (0 ≤ s ∧ s < 100)) (Classical.propDecidable _) (fstC (fun m => atV (dimP tw vf) d m s = want) m) (-1)
theorem p_whenC (C : CS pl tw vf sl kd hg wks shw ex nt ww sw gw) {d m s want : Int} (a1 : ir d) (a2 : ir m) (a3 : ir s) (a4 : ir want) {post : Int32 → Prop} (h : post (zi (whenV tw vf d m s want))) : wp_X11_when shw (zi d) (zi m) (zi s) (zi want) post := by
  have b4 := a4
  simp only [ir] at b4
  simp only [wp_X11_when]
  refine p_isTime a1 a2 (fun t => ⟨fun z => absurd z (by decide), fun _ => ?_⟩) (fun t => ⟨fun _ => ?_, fun z => absurd rfl z⟩)
  · refine p_isSquare a3 (fun q => ⟨fun _ => ?_, fun z => absurd z (by decide)⟩) (fun q => ⟨fun z => absurd rfl z, fun _ => ?_⟩)
    · rw [whenV, if_pos ⟨t, q⟩] at h
      refine lp_inv (fun i s' => s' = (zi d, zi s, zi want, zi (m + i)) ∧ ∀ m', m ≤ m' → m' < m + i → ¬ atV (dimP tw vf) d m' s = want) (120 - m).toNat ?_ ?_ 0 (Nat.zero_le _) ⟨by simp, fun m' x y => by omega⟩
      · rintro s' ⟨rfl, hno⟩ kb
        simp (disch := omega) only [wp_X11_when_L20, zi_lit, zi_lt]
        refine ⟨fun _ => ?_, fun z => by omega⟩
        rw [← fstC_eq (P := fun m => atV (dimP tw vf) d m s = want) t.2.1 (T := -1) (Or.inl ⟨rfl, fun m' x y => hno m' x (by omega)⟩)] at h
        exact h
      · rintro i hi s' ⟨rfl, hno⟩ kb hkb
        have hni : m + ((i + 1 : Nat) : Int) = m + i + 1 := by omega
        simp (disch := omega) only [wp_X11_when_L20, zi_lit, zi_lt]
        refine ⟨fun z => by omega, fun _ => ?_⟩
        refine p_row ?_
        have key : ∀ r : Int, r = atV (dimP tw vf) d (m + i) s → (0 ≤ r ∧ r ≤ 1) → ((¬ zi r = zi want → (∀ y52 : Int32, y52 = zi (m + i) + zi 1 → (kb (zi d, zi s, zi want, y52)))) ∧ (zi r = zi want → post (zi (m + i)))) := by
          intro r hr rr
          rw [zi_eq (by omega)]
          simp only [forall_eq, zi_add]
          refine ⟨fun z => hkb _ ⟨by rw [hni], fun m' x y => ?_⟩, fun z => ?_⟩
          · by_cases u : m' = m + i
            · rw [u, ← hr]; exact z
            · exact hno m' x (by omega)
          · rw [← fstC_eq (P := fun m => atV (dimP tw vf) d m s = want) t.2.1 (T := m + i) (Or.inr ⟨by omega, hr.symm.trans z, hno⟩)] at h
            exact h
        refine has_wR C.2.1 t.1 (m := m + i) (by omega) q (fun x => ?_) (fun x => ?_)
        · exact key 1 (by rw [atV, if_pos ⟨⟨t.1, by omega⟩, q⟩, if_pos x]) (by omega)
        · exact key 0 (by rw [atV, if_pos ⟨⟨t.1, by omega⟩, q⟩, if_neg x]) (by omega)
    · rw [whenV, if_neg (fun y => q y.2)] at h; exact h
  · rw [whenV, if_neg (fun y => t y.1)] at h; exact h
theorem p_whenR (hT : twR tw) (hC : clR tw op arg vf) {d m s want : Int} (a1 : ir d) (a2 : ir m) (a3 : ir s) (a4 : ir want) {th : Int32} {facts pile : Nat → Int32} {post : Int32 → Int32 → (Nat → Int32) → (Nat → Int32) → Prop} (h : ∀ f p, post (zi (whenV tw vf d m s want)) 0 f p) : wp_X12_when (zA tw) op arg th facts pile (zi d) (zi m) (zi s) (zi want) post := by
  have b4 := a4
  simp only [ir] at b4
  simp only [wp_X12_when]
  refine p_isDayR a1 (fun q1 => ⟨fun z => absurd z (by decide), fun _ => ?_⟩) (fun q1 => ⟨fun _ => ?_, fun z => absurd rfl z⟩)
  · refine p_isMinuteR a2 (fun q2 => ⟨fun z => absurd z (by decide), fun _ => ?_⟩) (fun q2 => ⟨fun _ => ?_, fun z => absurd rfl z⟩)
    · refine p_isSquareR a3 (fun q3 => ⟨fun _ => ?_, fun z => absurd z (by decide)⟩) (fun q3 => ⟨fun z => absurd rfl z, fun _ => ?_⟩)
      · rw [whenV, if_pos ⟨⟨q1, q2⟩, q3⟩] at h
        refine lp_inv (fun i s' => ∃ f p, s' = (0, f, p, zi d, zi s, zi want, zi (m + i)) ∧ ∀ m', m ≤ m' → m' < m + i → ¬ atV (dimP tw vf) d m' s = want) (120 - m).toNat ?_ ?_ 0 (Nat.zero_le _) ⟨facts, pile, by simp, fun m' x y => by omega⟩
        · rintro s' ⟨f, p, rfl, hno⟩ kb
          simp (disch := omega) only [wp_X12_when_L31, zi_lit, zi_le]
          refine ⟨fun _ => ?_, fun z => by omega⟩
          rw [← fstC_eq (P := fun m => atV (dimP tw vf) d m s = want) q2.1 (T := -1) (Or.inl ⟨rfl, fun m' x y => hno m' x (by omega)⟩)] at h
          exact h f p
        · rintro i hi s' ⟨f, p, rfl, hno⟩ kb hkb
          have hni : m + ((i + 1 : Nat) : Int) = m + i + 1 := by omega
          simp (disch := omega) only [wp_X12_when_L31, zi_lit, zi_le]
          refine ⟨fun z => by omega, fun _ => ?_⟩
          have key : ∀ (r : Int) (f' p' : Nat → Int32), r = atV (dimP tw vf) d (m + i) s → (0 ≤ r ∧ r ≤ 1) → ((¬ zi r = zi want → (∀ y54 : Int32, y54 = zi (m + i) + zi 1 → (kb (zi 0, f', p', zi d, zi s, zi want, y54)))) ∧ (zi r = zi want → post (zi (m + i)) (zi 0) f' p')) := by
            intro r f' p' hr rr
            rw [zi_eq (by omega)]
            simp only [forall_eq, zi_add]
            refine ⟨fun z => hkb _ ⟨f', p', by rw [hni]; rfl, fun m' x y => ?_⟩, fun z => ?_⟩
            · by_cases u : m' = m + i
              · rw [u, ← hr]; exact z
              · exact hno m' x (by omega)
            · rw [← fstC_eq (P := fun m => atV (dimP tw vf) d m s = want) q2.1 (T := m + i) (Or.inr ⟨by omega, hr.symm.trans z, hno⟩)] at h
              exact h f' p'
          refine p_isDim hT hC q1 (m := m + i) (by omega) q3 (fun x f' p' => ?_) (fun x f' p' => ?_)
          · exact key 1 f' p' (by rw [atV, if_pos ⟨⟨q1, by omega⟩, q3⟩, if_pos x]) (by omega)
          · exact key 0 f' p' (by rw [atV, if_pos ⟨⟨q1, by omega⟩, q3⟩, if_neg x]) (by omega)
      · rw [whenV, if_neg (fun y => q3 y.2)] at h; exact h _ _
    · rw [whenV, if_neg (fun y => q2 y.1.2)] at h; exact h _ _
  · rw [whenV, if_neg (fun y => q1 y.1.1)] at h; exact h _ _
end SM
