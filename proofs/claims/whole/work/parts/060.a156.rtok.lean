/-! the reference's questions about a token -/
section RQ
variable {tp : Int → Int} {tz : Int} {N : Nat} {so va pc : Int → Int}
theorem lt_1002 {i N : Nat} (h : i ≤ N) (hN : N ≤ 1000) : vp_in (zi i) 1002 := by rw [zi_in (by omega)]; omega
theorem pos_le (hz : 0 ≤ tz ∧ tz ≤ 1000) (i : Nat) : 0 ≤ pos tp tz i ∧ pos tp tz i ≤ 1000 := by
  have := pos_rng (tp := tp) hz.1 i
  omega
theorem flt_ne (hz : 0 ≤ tz ∧ tz ≤ 1000) {k : Int} (hk : k = 1 ∨ k = 3 ∨ k = 4 ∨ k = 5) (i : Nat) : ¬ zi (k + 16 * pos tp tz i) = 0 := by
  have := pos_le (tp := tp) hz i
  rw [zi_lit, zi_eq (by omega)]; omega
theorem flt_le (hz : 0 ≤ tz ∧ tz ≤ 1000) {k : Int} (hk : k = 1 ∨ k = 3 ∨ k = 4 ∨ k = 5) (i : Nat) : ¬ zi (k + 16 * pos tp tz i) ≤ 0 := by
  have := pos_le (tp := tp) hz i
  rw [zi_lit, zi_le (by omega)]; omega
theorem p_isWordR (hf : flR tp tz (N + 1) so va pc) (hN : N ≤ 1000) {i : Nat} (hi : i ≤ N) {w : Nat} (hw : w < 30) {post : Int32 → Prop} (h1 : tK tp tz i = wc w → post 1) (h0 : tK tp tz i ≠ wc w → post 0) : wp_X12_isWord (zi i) 0 (zA so) (zL va) wd_30 (zi w) post := by
  obtain ⟨⟨r1, r2, r3, r4, r5, r6, r7⟩, _⟩ := hf i (by omega)
  have o := wv_ok ⟨w, hw⟩
  dsimp only at o
  have ew : wd_30 (Int32.toNatClampNeg (zi w)) = zl (wv w) := by
    rw [zi_cl (by omega), Int.toNat_natCast]; exact o.2.1
  have iw : vp_in (zi (w : Int)) 30 := by rw [zi_in (by omega)]; omega
  rw [ne_eq, ← r5 w hw] at h0
  rw [← r5 w hw] at h1
  rw [wp_X12_isWord, zA_get (by omega), zL_get (by omega), ew]
  refine ⟨fun z => absurd rfl z, fun _ => ⟨lt_1002 hi hN, fun z => ?_, fun z => ⟨lt_1002 hi hN, iw, fun y => ?_, fun y => ?_⟩⟩⟩
  · rw [zi_lit, zi_eq (by omega)] at z
    exact h0 (fun q => z q.1)
  · rw [zi_lit, zi_eq (by omega)] at z
    have := r4 (by omega)
    rw [cmp_eq ⟨by omega, by omega⟩ ⟨by omega, by omega⟩] at y
    exact h0 (fun q => y q.2)
  · rw [zi_lit, zi_eq (by omega)] at z
    have := r4 (by omega)
    rw [cmp_eq ⟨by omega, by omega⟩ ⟨by omega, by omega⟩] at y
    exact h1 ⟨z, y⟩
theorem p_isSignR (hf : flR tp tz (N + 1) so va pc) (hN : N ≤ 1000) {i : Nat} (hi : i ≤ N) {c : Int} (hc : 0 ≤ c ∧ c < 128) (hs : sgK c ≠ 52) {post : Int32 → Prop} (h1 : tK tp tz i = sgK c → post 1) (h0 : tK tp tz i ≠ sgK c → post 0) : wp_X12_isSign (zi i) 0 (zA so) (zL va) (zi c) post := by
  obtain ⟨⟨r1, r2, r3, r4, r5, r6, r7⟩, _⟩ := hf i (by omega)
  rw [ne_eq, ← r6 c hs] at h0
  rw [← r6 c hs] at h1
  rw [wp_X12_isSign, zA_get (by omega), zL_get (by omega), zl_wide (by omega)]
  refine ⟨fun z => absurd rfl z, fun _ => ⟨lt_1002 hi hN, fun z => ?_, fun z => ⟨lt_1002 hi hN, fun y => ?_, fun y => ?_⟩⟩⟩
  · rw [zi_lit, zi_eq (by omega)] at z
    exact h0 (fun q => z q.1)
  · rw [zi_lit, zi_eq (by omega)] at z
    have := r4 (by omega)
    rw [cmp_eq ⟨by omega, by omega⟩ ⟨by omega, by omega⟩] at y
    exact h0 (fun q => y q.2)
  · rw [zi_lit, zi_eq (by omega)] at z
    have := r4 (by omega)
    rw [cmp_eq ⟨by omega, by omega⟩ ⟨by omega, by omega⟩] at y
    exact h1 ⟨z, y⟩
theorem p_isWordF {at_ fa p1 : Int32} {t1 : Nat → Int32} {t2 t3 : Nat → Int64} (hfa : ¬ fa = 0) {post : Int32 → Prop} (h : post 0) : wp_X12_isWord at_ fa t1 t2 t3 p1 post := ⟨fun _ => h, fun z => absurd z hfa⟩
theorem p_isSignF {at_ fa p1 : Int32} {t1 : Nat → Int32} {t2 : Nat → Int64} (hfa : ¬ fa = 0) {post : Int32 → Prop} (h : post 0) : wp_X12_isSign at_ fa t1 t2 p1 post := ⟨fun _ => h, fun z => absurd z hfa⟩
theorem zi_p1 (i : Nat) : zi (i : Int) + 1 = zi ((i + 1 : Nat) : Int) := by rw [zi_lit, zi_add]; rfl
theorem zi_p0 (x : Int32) : x + 0 = x := by
  obtain ⟨z, e, _⟩ := zi_ex x
  rw [e, zi_lit, zi_add]; congr 1; omega
theorem p_hasSignR (hf : flR tp tz (N + 1) so va pc) (hN : N ≤ 1000) {i : Nat} (hi : i ≤ N) {c : Int} (hc : 0 ≤ c ∧ c < 128) (hs : sgK c ≠ 52) {post : Int32 → Int32 → Prop} (h1 : tK tp tz i = sgK c → post 1 (zi ((i + 1 : Nat) : Int))) (h0 : tK tp tz i ≠ sgK c → post 0 (zi i)) : wp_X12_hasSign 0 (zA so) (zL va) (zi i) (zi c) post := by
  rw [wp_X12_hasSign]
  refine p_isSignR hf hN hi hc hs (fun q => ⟨fun z => absurd z (by decide), fun _ x e => ⟨Or.inr rfl, ?_⟩⟩) (fun q => ⟨fun _ x e => ⟨Or.inl rfl, ?_⟩, fun z => absurd rfl z⟩)
  · rw [e, zi_p1]; exact h1 q
  · rw [e, zi_p0]; exact h0 q
theorem p_hasWordR (hf : flR tp tz (N + 1) so va pc) (hN : N ≤ 1000) {i : Nat} (hi : i ≤ N) {w : Nat} (hw : w < 30) {post : Int32 → Int32 → Prop} (h1 : tK tp tz i = wc w → post 1 (zi ((i + 1 : Nat) : Int))) (h0 : tK tp tz i ≠ wc w → post 0 (zi i)) : wp_X12_hasWord 0 (zA so) (zL va) wd_30 (zi i) (zi w) post := by
  rw [wp_X12_hasWord]
  refine p_isWordR hf hN hi hw (fun q => ⟨fun z => absurd z (by decide), fun _ x e => ⟨Or.inr rfl, ?_⟩⟩) (fun q => ⟨fun _ x e => ⟨Or.inl rfl, ?_⟩, fun z => absurd rfl z⟩)
  · rw [e, zi_p1]; exact h1 q
  · rw [e, zi_p0]; exact h0 q
theorem p_hasSignF {at_ fa p1 : Int32} {t1 : Nat → Int32} {t2 : Nat → Int64} (hfa : ¬ fa = 0) {post : Int32 → Int32 → Prop} (h : post 0 at_) : wp_X12_hasSign fa t1 t2 at_ p1 post := by
  rw [wp_X12_hasSign]
  refine p_isSignF hfa ⟨fun _ x e => ⟨Or.inl rfl, ?_⟩, fun z => absurd rfl z⟩
  rw [e, zi_p0]; exact h
theorem p_hasWordF {at_ fa p1 : Int32} {t1 : Nat → Int32} {t2 t3 : Nat → Int64} (hfa : ¬ fa = 0) {post : Int32 → Int32 → Prop} (h : post 0 at_) : wp_X12_hasWord fa t1 t2 t3 at_ p1 post := by
  rw [wp_X12_hasWord]
  refine p_isWordF hfa ⟨fun _ x e => ⟨Or.inl rfl, ?_⟩, fun z => absurd rfl z⟩
  rw [e, zi_p0]; exact h
theorem p_wrongR (hf : flR tp tz (N + 1) so va pc) (hz : 0 ≤ tz ∧ tz ≤ 1000) (hN : N ≤ 1000) {i : Nat} (hi : i ≤ N) {k : Int} {post : Int32 → Prop} (h : post (zi (k + 16 * pos tp tz i))) : wp_X12_wrong (zi i) (zA pc) 0 (zi k) post := by
  have e := (hf i (by omega)).2
  rw [wp_X12_wrong, zA_get (by omega), e]
  refine ⟨fun z => absurd rfl z, fun _ => ⟨lt_1002 hi hN, fun x ex => ?_⟩⟩
  rw [ex, zi_lit, zi_mul, zi_add]; exact h
theorem p_wrongF {at_ fa k : Int32} {t1 : Nat → Int32} (hfa : ¬ fa = 0) {post : Int32 → Prop} (h : post fa) : wp_X12_wrong at_ t1 fa k post := ⟨fun _ => h, fun z => absurd z hfa⟩
theorem p_takeSignR (hf : flR tp tz (N + 1) so va pc) (hz : 0 ≤ tz ∧ tz ≤ 1000) (hN : N ≤ 1000) {i : Nat} (hi : i ≤ N) {c : Int} (hc : 0 ≤ c ∧ c < 128) (hs : sgK c ≠ 52) {post : Int32 → Int32 → Prop} (h1 : tK tp tz i = sgK c → post (zi ((i + 1 : Nat) : Int)) 0) (h0 : tK tp tz i ≠ sgK c → post (zi i) (zi (1 + 16 * pos tp tz i))) : wp_X12_takeSign (zA so) (zL va) (zA pc) (zi i) 0 (zi c) post := by
  rw [wp_X12_takeSign]
  refine p_isSignR hf hN hi hc hs (fun q => ⟨fun z => absurd z (by decide), fun _ x e => ?_⟩) (fun q => ⟨fun _ => p_wrongR (k := 1) hf hz hN hi (h0 q), fun z => absurd rfl z⟩)
  rw [e, zi_p1]; exact h1 q
theorem p_takeSignF {at_ fa p1 : Int32} {t1 t4 : Nat → Int32} {t2 : Nat → Int64} (hfa : ¬ fa = 0) {post : Int32 → Int32 → Prop} (h : post at_ fa) : wp_X12_takeSign t1 t2 t4 at_ fa p1 post := by
  rw [wp_X12_takeSign]
  exact p_isSignF hfa ⟨fun _ => p_wrongF hfa h, fun z => absurd rfl z⟩
theorem p_takeWordR (hf : flR tp tz (N + 1) so va pc) (hz : 0 ≤ tz ∧ tz ≤ 1000) (hN : N ≤ 1000) {i : Nat} (hi : i ≤ N) {w : Nat} (hw : w < 30) {post : Int32 → Int32 → Prop} (h1 : tK tp tz i = wc w → post (zi ((i + 1 : Nat) : Int)) 0) (h0 : tK tp tz i ≠ wc w → post (zi i) (zi (1 + 16 * pos tp tz i))) : wp_X12_takeWord (zA so) (zL va) wd_30 (zA pc) (zi i) 0 (zi w) post := by
  rw [wp_X12_takeWord]
  exact p_hasWordR hf hN hi hw (fun q => ⟨fun _ => h1 q, fun z => absurd z (by decide)⟩) (fun q => ⟨fun z => absurd rfl z, fun _ => p_wrongR (k := 1) hf hz hN hi (h0 q)⟩)
theorem p_takeWordF {at_ fa p1 : Int32} {t1 t4 : Nat → Int32} {t2 t3 : Nat → Int64} (hfa : ¬ fa = 0) {post : Int32 → Int32 → Prop} (h : post at_ fa) : wp_X12_takeWord t1 t2 t3 t4 at_ fa p1 post := by
  rw [wp_X12_takeWord]
  exact p_hasWordF hfa ⟨fun z => absurd rfl z, fun _ => p_wrongF hfa h⟩
end RQ
/-- codes laid down -/
def emR (op arg op' arg' : Nat → Int32) (e : Nat) (C : List Int) : Prop := (∀ k : Nat, k < 1100 + e ∨ 1100 + e + C.length ≤ k → op' k = op k ∧ arg' k = arg k) ∧ ∀ t : Nat, t < C.length → op' (1100 + e + t) = zi (opI (C.getD t 0)) ∧ arg' (1100 + e + t) = zi (agI (C.getD t 0))
def emF (op arg op' arg' : Nat → Int32) (e e' : Nat) : Prop := ∀ k : Nat, k < 1100 + e ∨ 1100 + e' ≤ k → op' k = op k ∧ arg' k = arg k
theorem emR_0 {op arg : Nat → Int32} {e : Nat} : emR op arg op arg e [] := ⟨fun _ _ => ⟨rfl, rfl⟩, fun t ht => absurd ht (by simp)⟩
theorem emR_F {op arg op' arg' : Nat → Int32} {e : Nat} {C : List Int} (h : emR op arg op' arg' e C) : emF op arg op' arg' e (e + C.length) := fun k hk => h.1 k (by omega)
theorem emF_trans {op arg op1 arg1 op2 arg2 : Nat → Int32} {e e1 e2 : Nat} (h : emF op arg op1 arg1 e e1) (g : emF op1 arg1 op2 arg2 e1 e2) (a : e ≤ e1) (b : e1 ≤ e2) : emF op arg op2 arg2 e e2 := fun k hk => by
  have x := h k (by omega)
  have y := g k (by omega)
  exact ⟨y.1.trans x.1, y.2.trans x.2⟩
theorem emR_app {op arg op1 arg1 op2 arg2 : Nat → Int32} {e : Nat} {C D : List Int} (h : emR op arg op1 arg1 e C) (g : emR op1 arg1 op2 arg2 (e + C.length) D) : emR op arg op2 arg2 e (C ++ D) := by
  refine ⟨fun k hk => ?_, fun t ht => ?_⟩
  · rw [List.length_append] at hk
    have x := h.1 k (by omega)
    have y := g.1 k (by omega)
    exact ⟨y.1.trans x.1, y.2.trans x.2⟩
  · rw [List.length_append] at ht
    rw [List.getD_eq_getElem?_getD]
    by_cases q : t < C.length
    · have x := h.2 t q
      have y := g.1 (1100 + e + t) (by omega)
      rw [List.getElem?_append_left q, ← List.getD_eq_getElem?_getD]
      exact ⟨y.1.trans x.1, y.2.trans x.2⟩
    · have y := g.2 (t - C.length) (by omega)
      rw [show 1100 + (e + C.length) + (t - C.length) = 1100 + e + t by omega] at y
      rw [List.getElem?_append_right (by omega), ← List.getD_eq_getElem?_getD]
      exact y
theorem p_emitR {op arg : Nat → Int32} {e : Nat} (he : e < 5500) {a b : Int32} {post : Int32 → (Nat → Int32) → (Nat → Int32) → Prop} (h : post (zi ((e + 1 : Nat) : Int)) (upd op (1100 + e) a) (upd arg (1100 + e) b)) : wp_X12_emit (zi e) op arg a b post := by
  have e1 : 1100 + zi (e : Int) = zi ((1100 + e : Nat) : Int) := by rw [zi_lit, zi_add]; rfl
  have i1 : vp_in (zi ((1100 + e : Nat) : Int)) 6600 := by rw [zi_in (by omega)]; omega
  simp only [wp_X12_emit, forall_eq, e1, zi_p1]
  rw [zi_cl (by omega), Int.toNat_natCast]
  exact ⟨i1, i1, h⟩
theorem emR_one {op arg : Nat → Int32} {e : Nat} {a : Int} : emR op arg (upd op (1100 + e) (zi (opI a))) (upd arg (1100 + e) (zi (agI a))) e [a] := by
  refine ⟨fun k hk => ?_, fun t ht => ?_⟩
  · rw [List.length_singleton] at hk
    rw [pk_un (by omega), pk_un (by omega)]; exact ⟨rfl, rfl⟩
  · rw [List.length_singleton] at ht
    have : t = 0 := by omega
    subst this
    exact ⟨pk_us .., pk_us ..⟩
theorem emF_one {op arg : Nat → Int32} {e : Nat} {a b : Int32} : emF op arg (upd op (1100 + e) a) (upd arg (1100 + e) b) e (e + 1) := by
  intro k hk
  rw [pk_un (by omega), pk_un (by omega)]; exact ⟨rfl, rfl⟩
