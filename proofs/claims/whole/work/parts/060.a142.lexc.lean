/-! the class's tokens -/
def txt : List Int := [104, 111, 117, 115, 101, 32, 116, 114, 101, 101, 32, 97, 114, 99, 97, 100, 101, 32, 97, 119, 110, 105, 110, 103, 32, 115, 104, 117, 116, 32, 119, 97, 116, 101, 114, 32, 115, 117, 110, 32, 119, 97, 108, 107, 101, 114, 32, 119, 104, 101, 110, 32, 102, 114, 111, 109, 32, 111, 118, 101, 114, 32, 112, 97, 99, 101, 32, 98, 101, 97, 114, 115, 32, 109, 101, 110, 100, 115, 32, 105, 99, 101, 32, 104, 111, 116, 32, 99, 111, 111, 108, 32, 97, 110, 100, 32, 111, 114, 32, 110, 111, 116, 32, 109, 105, 110, 117, 116, 101, 32, 100, 97, 121, 32, 110, 111, 114, 116, 104, 32, 110, 111, 114, 116, 104, 101, 97, 115, 116, 32, 101, 97, 115, 116, 32, 115, 111, 117, 116, 104, 101, 97, 115, 116, 32, 115, 111, 117, 116, 104, 32, 115, 111, 117, 116, 104, 119, 101, 115, 116, 32, 119, 101, 115, 116, 32, 110, 111, 114, 116, 104, 119, 101, 115, 116]
def wdJ : List (List Int) → List Int
  | [] => []
  | [a] => a
  | a :: b :: r => a ++ 32 :: wdJ (b :: r)
set_option maxRecDepth 20000 in
theorem txt_wds : txt = wdJ wds := by decide
set_option maxRecDepth 20000 in
theorem txt_len : txt.length = 175 := rfl
set_option maxRecDepth 20000 in
theorem kByt_txt : kByt.getD 0 [] = txt.map zi := rfl
set_option maxRecDepth 20000 in
theorem txt_ok : ∀ c ∈ txt, (32 ≤ c ∧ c ≤ 122) := by decide
set_option maxRecDepth 20000 in
theorem chr_ok : ∀ n : Fin 128, (Int32.toUInt32 ((zi n) &&& 255) % 65536).toInt32 = zi n ∧ narrow .char (.int (zi n)) = .int (zi n) := by decide
section WOT
variable (tp : Int → Int) (k len : Int)
def wst (c s : Int) : Int := if s = -1 then -1 else if s < len ∧ tp (k + s) = c then s + 1 else -1
def wot : List Int → Int → Int → Int
  | [], w, s => if s = len then w else 52
  | c :: r, w, s => if c = 32 then (if s = len then w else wot r (w + 1) 0) else wot r w (wst tp k len c s)
def wsF : List Int → Int → Int
  | [], s => s
  | c :: a, s => wsF a (wst tp k len c s)
end WOT
section WOT2
variable {tp : Int → Int} {k len : Int}
theorem wot_in : ∀ (a r : List Int) (w s : Int), (∀ c ∈ a, c ≠ 32) → wot tp k len (a ++ r) w s = wot tp k len r w (wsF tp k len a s)
  | [], r, w, s, _ => rfl
  | c :: a, r, w, s, h => by
    rw [List.cons_append, wot, if_neg (h c (List.mem_cons_self ..)), wsF]
    exact wot_in a r w _ (fun d hd => h d (List.mem_cons_of_mem _ hd))
theorem wsF_no : ∀ a : List Int, wsF tp k len a (-1) = -1
  | [] => rfl
  | c :: a => by
    rw [wsF]
    have : wst tp k len c (-1) = -1 := by rw [wst, if_pos rfl]
    rw [this]; exact wsF_no a
theorem wsF_eq (h0 : 0 ≤ len) : ∀ (a : List Int) (s : Int), 0 ≤ s → s ≤ len → (wsF tp k len a s = len ↔ ltr tp (k + s) (len - s).toNat = a)
  | [], s, s0, s1 => by
    rw [wsF]
    constructor
    · intro e
      have : (len - s).toNat = 0 := by omega
      rw [this, ltr]
    · intro e
      have := ltr_len (tp := tp) (len - s).toNat (k + s)
      rw [e] at this
      simp only [List.length_nil] at this
      omega
  | c :: a, s, s0, s1 => by
    rw [wsF]
    by_cases q : s < len ∧ tp (k + s) = c
    · have e : wst tp k len c s = s + 1 := by rw [wst, if_neg (by omega), if_pos q]
      have n : (len - s).toNat = (len - (s + 1)).toNat + 1 := by omega
      have k1 : k + (s + 1) = k + s + 1 := by omega
      rw [e, wsF_eq h0 a (s + 1) (by omega) (by omega), n, ltr, q.2, k1]
      constructor
      · intro h; rw [h]
      · intro h; exact (List.cons.inj h).2
    · have e : wst tp k len c s = -1 := by rw [wst, if_neg (by omega), if_neg q]
      rw [e, wsF_no]
      constructor
      · intro h; omega
      · intro h
        by_cases z : s = len
        · have : (len - s).toNat = 0 := by omega
          rw [this, ltr] at h
          exact absurd h (by simp)
        · have n : (len - s).toNat = (len - (s + 1)).toNat + 1 := by omega
          rw [n, ltr] at h
          exact absurd ⟨by omega, (List.cons.inj h).1⟩ q
theorem wot_fI (h0 : 0 ≤ len) : ∀ (W : List (List Int)) (w : Int), W ≠ [] → (∀ a ∈ W, ∀ c ∈ a, c ≠ 32) → wot tp k len (wdJ W) w 0 = fI (ltr tp k len.toNat) W w
  | [], w, h, _ => absurd rfl h
  | [a], w, _, h => by
    have e := wsF_eq (tp := tp) (k := k) h0 a 0 (by omega) h0
    rw [show k + 0 = k by omega, show len - 0 = len by omega] at e
    have f := wot_in (tp := tp) (k := k) (len := len) a [] w 0 (h a (List.mem_cons_self ..))
    rw [List.append_nil] at f
    rw [wdJ, f, wot, fI, fI]
    by_cases q : ltr tp k len.toNat = a
    · rw [if_pos (e.2 q), if_pos q]
    · rw [if_neg (fun z => q (e.1 z)), if_neg q]
  | a :: b :: r, w, _, h => by
    have e := wsF_eq (tp := tp) (k := k) h0 a 0 (by omega) h0
    rw [show k + 0 = k by omega, show len - 0 = len by omega] at e
    have f := wot_in (tp := tp) (k := k) (len := len) a (32 :: wdJ (b :: r)) w 0 (h a (List.mem_cons_self ..))
    rw [wdJ, f, wot, if_pos rfl, fI]
    by_cases q : ltr tp k len.toNat = a
    · rw [if_pos (e.2 q), if_pos q]
    · rw [if_neg (fun z => q (e.1 z)), if_neg q]
      exact wot_fI h0 (b :: r) (w + 1) (by simp) (fun d hd => h d (List.mem_cons_of_mem _ hd))
set_option maxRecDepth 20000 in
theorem wds_ok : ∀ a ∈ wds, ∀ c ∈ a, c ≠ 32 := by decide
theorem p_len0 {post : Int32 → Prop} (h : post (zi 175)) : wp_J0_length_8abf5 0 post := by
  simp only [wp_J0_length_8abf5, wp_J0_coder_7d493]
  refine ⟨fun z => absurd z (by decide), fun z => ⟨by decide, ?_⟩⟩
  exact h
theorem p_chr0 {i : Int} (h0 : 0 ≤ i) (h1 : i < 175) {post : Int32 → Prop} (h : post (zi (txt.getD i.toNat 0))) : wp_J0_charAt_5068e 0 (zi i) post := by
  have hl : kLen.getD 0 0 = 175 := rfl
  have hb : (kByt.getD 0 []).getD i.toNat 0 = zi (txt.getD i.toNat 0) := by
    rw [kByt_txt, List.getD_eq_getElem?_getD, List.getD_eq_getElem?_getD, List.getElem?_map, List.getElem?_eq_getElem (by rw [txt_len]; omega)]
    rfl
  have hm : txt.getD i.toNat 0 ∈ txt := by
    rw [List.getD_eq_getElem?_getD, List.getElem?_eq_getElem (by rw [txt_len]; omega)]
    exact List.getElem_mem _
  have hc := txt_ok _ hm
  have ck := chr_ok ⟨(txt.getD i.toNat 0).toNat, by omega⟩
  simp only [show (((txt.getD i.toNat 0).toNat : Nat) : Int) = txt.getD i.toNat 0 by omega] at ck
  simp only [wp_J0_charAt_5068e, wp_J0_isLatin1_aae02, wp_J1_charAt_3b067, wp_J0_checkIndex_df160, wp_J3_checkIndex_8e157, wp_J3_checkIndex_8e157_b9, hl, zi_cl (show 0 ≤ i ∧ i < 2147483648 by omega), hb, ck.1]
  simp (disch := omega) only [nI_zi, zi_lit, zi_lt, zi_in]
  have hn := ck.2
  refine ⟨fun z => absurd z (by decide), fun _ => ⟨fun z => absurd trivial z, fun _ => ⟨fun z => absurd z (by decide), fun _ g => ⟨fun z => by omega, fun _ => ⟨fun _ => ?_, fun z => by omega⟩⟩⟩⟩⟩
  exact ⟨by omega, hn, hn, h⟩
theorem p_tword {tz : Int} (hz : 0 ≤ tz ∧ tz ≤ 1000) (ht : i32 tp) (hk : 0 ≤ k) (hl : 0 ≤ len) (hkl : k + len ≤ tz) {post : Int32 → Prop} (h : post (zi (fI (ltr tp k len.toNat) wds 0))) : wp_X4_wordOnTape (zi tz) (zA tp) (zi k) (zi len) post := by
  rw [← wot_fI hl wds 0 (by decide) wds_ok, ← txt_wds] at h
  rw [wp_X4_wordOnTape]
  refine lp_inv (fun i s => ∃ w q : Int, s = (zi k, zi len, zi w, zi q, zi i) ∧ (0 ≤ w ∧ w ≤ i) ∧ (-1 ≤ q ∧ q ≤ len) ∧ ((i ≤ 175 ∧ wot tp k len (txt.drop i) w q = wot tp k len txt 0 0) ∨ (i = 176 ∧ wot tp k len txt 0 0 = 52))) 176 ?_ ?_ 0 (by omega) ⟨0, 0, rfl, by omega, by omega, Or.inl ⟨by omega, rfl⟩⟩
  · rintro s ⟨w, q, rfl, hw, hq, hh⟩ kb
    rcases hh with ⟨hh, _⟩ | ⟨_, hh⟩
    · omega
    rw [hh] at h
    dsimp only [wp_X4_wordOnTape_L8]
    refine p_len0 ?_
    simp (disch := omega) only [zi_lit, zi_lt]
    exact ⟨fun _ => h, fun z => by omega⟩
  · rintro i hi s ⟨w, q, rfl, hw, hq, hh⟩ kb hkb
    rcases hh with ⟨hi5, hh⟩ | ⟨hh, _⟩
    rotate_left
    · omega
    have go : ∀ c : Int, (32 ≤ c ∧ c ≤ 122) → ((i < 175 ∧ txt.drop i = c :: txt.drop (i + 1)) ∨ (i = 175 ∧ c = 32)) → wp_X4_wordOnTape_b40 (post 52) (fun l3 => post l3) kb (zi tz) (zA tp) post (zi k) (zi len) (zi w) (zi q) (zi i) (zi c) := by
      intro c hc hcc
      simp (disch := omega) only [wp_X4_wordOnTape_b40, forall_eq, zi_lit, zi_neg, zi_add, zi_eq, zi_le]
      refine ⟨fun c32 => ?_, fun c32 => ⟨fun ql => ?_, fun ql => ?_⟩⟩
      · rcases hcc with ⟨i1, dr⟩ | ⟨_, e⟩
        rotate_left
        · exact absurd e c32
        rw [dr, wot, if_neg c32] at hh
        refine ⟨fun q1 => ?_, fun q1 => ⟨fun ql => ?_, fun ql => ?_⟩⟩
        · refine hkb _ ⟨w, q, ?_, by omega, by omega, Or.inl ⟨by omega, ?_⟩⟩
          · rfl
          · rw [← hh, wst, if_pos q1, q1]
        · refine hkb _ ⟨w, -1, ?_, by omega, by omega, Or.inl ⟨by omega, ?_⟩⟩
          · rfl
          · rw [← hh, wst, if_neg q1, if_neg (by omega)]
        · refine p_at (by decide) hz (by omega) (fun a b => ?_) (fun a => by omega)
          have tt := ht (k + q)
          simp (disch := omega) only [zi_eq]
          refine ⟨fun ne => ?_, fun ee => ?_⟩
          · refine hkb _ ⟨w, -1, ?_, by omega, by omega, Or.inl ⟨by omega, ?_⟩⟩
            · rfl
            · rw [← hh, wst, if_neg q1, if_neg (fun z => ne z.2)]
          · refine hkb _ ⟨w, q + 1, ?_, by omega, by omega, Or.inl ⟨by omega, ?_⟩⟩
            · rfl
            · rw [← hh, wst, if_neg q1, if_pos ⟨by omega, ee⟩]
      · rcases hcc with ⟨i1, dr⟩ | ⟨i1, _⟩
        · rw [dr, wot, if_pos c32, if_neg ql] at hh
          refine hkb _ ⟨w + 1, 0, ?_, by omega, by omega, Or.inl ⟨by omega, hh⟩⟩
          rfl
        · subst i1
          have : txt.drop 175 = [] := rfl
          rw [this, wot, if_neg ql] at hh
          refine hkb _ ⟨w + 1, 0, ?_, by omega, by omega, Or.inr ⟨rfl, hh.symm⟩⟩
          rfl
      · rcases hcc with ⟨i1, dr⟩ | ⟨i1, _⟩
        · rw [dr, wot, if_pos c32, if_pos ql] at hh
          rw [hh]; exact h
        · subst i1
          have : txt.drop 175 = [] := rfl
          rw [this, wot, if_pos ql] at hh
          rw [hh]; exact h
    dsimp only [wp_X4_wordOnTape_L8]
    refine p_len0 ?_
    simp (disch := omega) only [zi_lt]
    refine ⟨fun z => by omega, fun _ => p_len0 ?_⟩
    simp (disch := omega) only [zi_le]
    refine ⟨fun z => ?_, fun z => p_chr0 (by omega) (by omega) ?_⟩
    · exact go 32 (by omega) (Or.inr ⟨by omega, rfl⟩)
    · have hlt : i < txt.length := by rw [txt_len]; omega
      have e : txt.getD (i : Int).toNat 0 = txt[i] := by
        rw [Int.toNat_natCast, List.getD_eq_getElem?_getD, List.getElem?_eq_getElem hlt]; rfl
      rw [e]
      exact go _ (txt_ok _ (List.getElem_mem _)) (Or.inl ⟨by omega, List.drop_eq_getElem_cons hlt⟩)
end WOT2
