/-! E read by the reference at depth 0; the class's Formula -/
section TOP
variable {tp : Int → Int} {tz : Int} {N : Nat} {so va pc : Int → Int}
theorem PS_all (hz : 0 ≤ tz ∧ tz ≤ 1000) (hN : pos tp tz N = tz) (hN1 : N ≤ 1000) (hf : flR tp tz (N + 1) so va pc) : ∀ (m : Nat) (d : Int), d + m = 5 → 0 ≤ d → PS tp tz N (1 + 4 * m) d (ofT (wp_X12_takePart (m + 1)) so va pc d)
  | 0, d, e, h => by
    have : d = 5 := by omega
    rw [this]
    exact PS_5 hz hN1 hf
  | m + 1, d, e, h => by
    have p := PS_all hz hN hN1 hf m (d + 1) (by omega) (by omega)
    have a := SP_all hz hN hN1 hf (SP_test hz hN hN1 hf (SP_sums hz hN hN1 hf (SP_products hz hN hN1 hf (PS_SP p))))
    have g := PS_step hz hN hN1 hf (by omega) p a (by omega)
    exact g
theorem E_top (hz : 0 ≤ tz ∧ tz ≤ 1000) (hN : pos tp tz N = tz) (hN1 : N ≤ 1000) (hf : flR tp tz (N + 1) so va pc) : SP tp tz N 25 1 bdT (fun t => enT t ∧ ¬ (t = 17 ∨ t = 18)) 0 (ofT (wp_X12_all (wp_X12_takePart 6)) so va pc 0) :=
  SP_all hz hN hN1 hf (SP_test hz hN hN1 hf (SP_sums hz hN hN1 hf (SP_products hz hN hN1 hf (PS_SP (PS_all hz hN hN1 hf 5 0 (by omega) (by omega))))))
end TOP
/-- what is pending, its top first -/
def pnd (f : Int → Int) : List Int → Prop
  | [] => True
  | t :: P => (f P.length = t ∧ 0 ≤ t ∧ t < 60) ∧ pnd f P
theorem pnd_up {f : Int → Int} {n x : Int} : ∀ P : List Int, (P.length : Int) ≤ n → pnd f P → pnd (upI f n x) P
  | [], _, _ => trivial
  | t :: P, h, hs => by
    rw [List.length_cons] at h
    exact ⟨⟨by rw [upI_n (by omega)]; exact hs.1.1, hs.1.2⟩, pnd_up P (by omega) hs.2⟩
theorem pnd_push {f : Int → Int} {x : Int} {P : List Int} (h : pnd f P) (hx : 0 ≤ x ∧ x < 60) : pnd (upI f P.length x) (x :: P) := ⟨⟨upI_s .., hx⟩, pnd_up P (by omega) h⟩
theorem pnd_stl {f : Int → Int} {r : Int} : ∀ (P c : List Int), pnd f P → pnd f (stl r P c).1
  | [], c, h => h
  | t :: P, c, h => by
    rw [stl]
    by_cases g : r ≤ rk t
    · rw [if_pos g]; exact pnd_stl P _ h.2
    · rw [if_neg g]; exact h
theorem pnd_dN {f : Int → Int} : ∀ (P : List Int), pnd f P → pnd f (dN P)
  | [], h => h
  | t :: P, h => by
    rw [dN]
    by_cases g : t = 19
    · rw [if_pos g]; exact pnd_dN P h.2
    · rw [if_neg g]; exact h
theorem stl_len {r : Int} : ∀ (P c : List Int), (stl r P c).1.length + (stl r P c).2.length = P.length + c.length
  | [], c => rfl
  | t :: P, c => by
    rw [stl]
    by_cases g : r ≤ rk t
    · rw [if_pos g, stl_len P, List.length_append, List.length_singleton, List.length_cons]; omega
    · rw [if_neg g]
theorem dN_len : ∀ (P : List Int), (dN P).length + cN P = P.length
  | [] => rfl
  | t :: P => by
    rw [dN, cN]
    by_cases g : t = 19
    · rw [if_pos g, if_pos g, List.length_cons, ← dN_len P]; omega
    · rw [if_neg g, if_neg g]; rfl
/-- how many of not and ( are open -/
def cO : List Int → Nat
  | [] => 0
  | t :: P => (if t = 19 ∨ t = 32 then 1 else 0) + cO P
theorem cO_stl {r : Int} (hr : 1 ≤ r) : ∀ (P c : List Int), cO (stl r P c).1 = cO P
  | [], c => rfl
  | t :: P, c => by
    rw [stl]
    by_cases g : r ≤ rk t
    · have l := rk_lk (t := t) (by omega)
      rw [if_pos g, cO_stl hr P, cO, if_neg (by omega)]; omega
    · rw [if_neg g]
theorem cO_dN : ∀ (P : List Int), cO (dN P) + cN P = cO P
  | [] => rfl
  | t :: P => by
    rw [dN, cN, cO]
    by_cases g : t = 19
    · rw [if_pos g, if_pos g, if_pos (Or.inl g), ← cO_dN P]; omega
    · rw [if_neg g, if_neg g, cO]; rfl
section FM
theorem p_rank {t : Int} (ht : -100 ≤ t ∧ t ≤ 100) {post : Int32 → Prop} (h : post (zi (rk t))) : wp_X2_rank (zi t) post := by
  simp (disch := omega) only [wp_X2_rank, zi_lit, zi_eq]
  refine ⟨?_, ?_, ?_, ?_, ?_, ?_, ?_, ?_, ?_, ?_, ?_, ?_, ?_, ?_, ?_, ?_, ?_, ?_, ?_, ?_, ?_, ?_, ?_⟩
  iterate 22 (intro e; subst e; exact h)
  · intros
    have : rk t = 0 := rk_0 (by unfold lkT; omega)
    rw [this] at h; exact h
theorem p_last {f : Int → Int} {P : List Int} (hf : pnd f P) (hl : P.length ≤ 1000) {post : Int32 → Prop} (h : post (zi (hdI P))) : wp_X0_last 1000 (zi P.length) (zA f) post := by
  have e1000 : nI 1000 = zi 1000 := rfl
  cases P with
  | nil =>
    rw [wp_X0_last]
    exact ⟨fun _ => h, fun z => absurd (by decide) z⟩
  | cons t P =>
    rw [List.length_cons] at hl ⊢
    rw [wp_X0_last, e1000]
    simp (disch := omega) only [forall_eq, zi_lit, zi_lt, zi_le, zi_sub]
    rw [show (((P.length + 1 : Nat) : Int) - 1) = P.length by omega, zA_get (by omega), hf.1.1, zi_in (by omega)]
    exact ⟨fun z => by omega, fun _ => ⟨fun _ => ⟨by omega, h⟩, fun z => by omega⟩⟩
theorem p_dropL {t : Int} {P : List Int} (hl : (t :: P).length ≤ 1000) {post : Int32 → Prop} (h : post (zi P.length)) : wp_X0_dropLast (zi ((t :: P).length : Int)) post := by
  rw [List.length_cons] at hl ⊢
  simp (disch := omega) only [wp_X0_dropLast, forall_eq, zi_lit, zi_le, zi_sub]
  rw [show (((P.length + 1 : Nat) : Int) - 1) = P.length by omega]
  exact ⟨fun z => by omega, fun _ => h⟩
theorem p_addC {cf : Int → Int} {c : List Int} {x : Int} (hf : fwd cf c) (hl : c.length < 1000) {post : Int32 → Int32 → (Nat → Int32) → Prop} (h : ∀ cf', fwd cf' (c ++ [x]) → post 1 (zi ((c ++ [x]).length : Int)) (zA cf')) : wp_X0_add 1000 (zi c.length) (zA cf) (zi x) post := by
  refine p_add (by decide) (by omega) (fun _ => ?_) (fun z => by omega)
  have g := h _ (fwd_add hf)
  rw [List.length_append, List.length_singleton] at g
  exact g
theorem p_settle {pf cf : Int → Int} {r : Int} (hr : 1 ≤ r ∧ r ≤ 4) {P c : List Int} (hp : pnd pf P) (hf : fwd cf c) (hl : P.length + c.length ≤ 1000) {post : Int32 → Int32 → (Nat → Int32) → Prop} (h : ∀ cf', fwd cf' (stl r P c).2 → post (zi (stl r P c).1.length) (zi (stl r P c).2.length) (zA cf')) : wp_X2_settle (zA pf) (zi P.length) (zi c.length) (zA cf) (zi r) post := by
  rw [wp_X2_settle]
  refine lp_inv (fun i s => ∃ (P1 c1 : List Int) (cf1 : Int → Int), s = (zi P1.length, zi c1.length, zA cf1, zi r, zi i) ∧ stl r P1 c1 = stl r P c ∧ pnd pf P1 ∧ fwd cf1 c1 ∧ P1.length + i ≤ P.length ∧ P1.length + c1.length ≤ 1000) P.length ?_ ?_ 0 (by omega) ⟨P, c, cf, rfl, rfl, hp, hf, by omega, hl⟩
  · rintro s ⟨P1, c1, cf1, rfl, e, p1, f1, l1, l2⟩ kb
    have : P1 = [] := List.length_eq_zero_iff.1 (by omega)
    subst this
    rw [← e, stl] at h
    have ex := h cf1 f1
    dsimp only [wp_X2_settle_L2]
    refine ⟨fun _ => ex, fun _ => ?_⟩
    refine p_last (P := []) trivial (by decide) (p_rank (by decide) ?_)
    refine ⟨fun _ => ex, fun z => absurd ?_ z⟩
    rw [zi_lt (by rw [show rk (hdI []) = 0 by decide]; omega)]
    rw [show rk (hdI []) = 0 by decide]; omega
  · rintro i hi s ⟨P1, c1, cf1, rfl, e, p1, f1, l1, l2⟩ kb hkb
    have ex : rk (hdI P1) < r → post (zi P1.length) (zi c1.length) (zA cf1) := by
      intro z
      rw [stl_no hr.1 z] at e
      rw [← e] at h
      exact h cf1 f1
    have rr := rk_rng (t := hdI P1)
    dsimp only [wp_X2_settle_L2]
    refine ⟨fun z => ?_, fun _ => ?_⟩
    · rw [zi_lit, zi_le (by omega)] at z; omega
    have hb : -100 ≤ hdI P1 ∧ hdI P1 ≤ 100 := by
      cases P1 with
      | nil => decide
      | cons t P1 => rw [hdI]; have := p1.1; omega
    refine p_last p1 (by omega) (p_rank hb ?_)
    rw [zi_lt (by omega)]
    refine ⟨ex, fun z => ?_⟩
    match P1, e, p1, l1, l2, rr, hb, z with
    | [], e, p1, l1, l2, rr, hb, z => rw [show rk (hdI []) = 0 by decide] at z; omega
    | t :: P1, e, p1, l1, l2, rr, hb, z =>
      rw [hdI] at z
      rw [stl, if_pos (by omega)] at e
      have ll : P1.length + 1 + c1.length ≤ 1000 := by rw [List.length_cons] at l2; exact l2
      have ls : P1.length + 1 + i ≤ P.length := by rw [List.length_cons] at l1; exact l1
      refine p_last p1 (by rw [List.length_cons]; omega) ?_
      rw [hdI, show (-1 : Int32) = zi (-1) from rfl, zi_sub]
      refine p_addC f1 (by omega) (fun cf' hcf => ?_)
      refine p_dropL (by rw [List.length_cons]; omega) ?_
      rw [forall_eq, zi_p1]
      refine hkb _ ⟨P1, _, cf', rfl, e, p1.2, hcf, by omega, ?_⟩
      rw [List.length_append, List.length_singleton]; omega
theorem cN_hd {P : List Int} : (hdI P = 19 → ∃ P', P = 19 :: P' ∧ dN P = dN P' ∧ cN P = cN P' + 1) := by
  cases P with
  | nil => intro z; exact absurd z (by decide)
  | cons t P =>
    intro z
    rw [hdI] at z
    subst z
    exact ⟨P, rfl, by rw [dN, if_pos rfl], by rw [cN, if_pos rfl]⟩
theorem p_endPart {pf cf : Int → Int} {d : Int} {w : Int32} (hd : 0 ≤ d ∧ d ≤ 5) {P c : List Int} (hp : pnd pf P) (hf : fwd cf c) (hl : P.length + c.length ≤ 1000) (h5 : cN P ≤ 5) {post : Int32 → Int32 → Int32 → Int32 → (Nat → Int32) → Prop} (h : ∀ cf', fwd cf' (c ++ List.replicate (cN P) (-20)) → post (zi (d - cN P)) 0 (zi (dN P).length) (zi (c ++ List.replicate (cN P) (-20)).length) (zA cf')) : wp_X2_endPart (zA pf) (zi d) w (zi P.length) (zi c.length) (zA cf) post := by
  rw [wp_X2_endPart]
  refine lp_inv (fun i s => ∃ (P1 : List Int) (cf1 : Int → Int), s = (zi (d - i), 0, zi P1.length, zi (c ++ List.replicate i (-20)).length, zA cf1, zi i) ∧ dN P1 = dN P ∧ cN P1 + i = cN P ∧ pnd pf P1 ∧ fwd cf1 (c ++ List.replicate i (-20)) ∧ P1.length + i = P.length) (cN P) ?_ ?_ 0 (by omega) ⟨P, cf, ?_, rfl, rfl, hp, ?_, rfl⟩
  · rintro s ⟨P1, cf1, rfl, e1, e2, p1, f1, l1⟩ kb
    have n19 : hdI P1 ≠ 19 := fun z => by
      obtain ⟨P', _, _, q⟩ := cN_hd z
      omega
    have ex := h cf1 f1
    rw [← e1, (dN_0 n19).1] at ex
    dsimp only [wp_X2_endPart_L7]
    refine ⟨fun _ => ex, fun _ => p_last p1 (by omega) ⟨fun _ => ex, fun z => ?_⟩⟩
    have hb : -100 ≤ hdI P1 ∧ hdI P1 ≤ 100 := by
      cases P1 with
      | nil => decide
      | cons t P1 => rw [hdI]; have := p1.1; omega
    rw [zi_lit, zi_eq (by omega)] at z
    exact absurd z n19
  · rintro i hi s ⟨P1, cf1, rfl, e1, e2, p1, f1, l1⟩ kb hkb
    have h19 : hdI P1 = 19 := by
      by_cases z : hdI P1 = 19
      · exact z
      · have := (dN_0 z).2; omega
    obtain ⟨P', rfl, q1, q2⟩ := cN_hd h19
    have l2 : P'.length + 1 + i = P.length := by rw [List.length_cons] at l1; exact l1
    have lr : (c ++ List.replicate i (-20)).length = c.length + i := by rw [List.length_append, List.length_replicate]
    dsimp only [wp_X2_endPart_L7]
    refine ⟨fun z => ?_, fun _ => p_last p1 (by rw [List.length_cons]; omega) ⟨fun z => absurd rfl z, fun _ => ?_⟩⟩
    · rw [zi_lit, zi_le (by omega)] at z; omega
    refine p_addC (x := -20) f1 (by omega) (fun cf' hcf => ?_)
    refine p_dropL (by rw [List.length_cons]; omega) ?_
    rw [forall_eq, forall_eq, zi_p1, zi_lit, zi_sub]
    have er : c ++ List.replicate i (-20) ++ [-20] = c ++ List.replicate (i + 1) (-20) := by rw [List.replicate_succ', List.append_assoc]
    rw [er] at hcf ⊢
    refine hkb _ ⟨P', cf', ?_, by rw [← q1]; exact e1, by omega, p1.2, hcf, by omega⟩
    rw [show d - (i : Int) - 1 = d - ((i + 1 : Nat) : Int) by omega]
  · rw [List.replicate, List.append_nil, Int.natCast_zero, Int.sub_zero]; rfl
  · rw [List.replicate, List.append_nil]; exact hf
end FM
