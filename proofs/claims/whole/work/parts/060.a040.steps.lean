/-! the fewest steps: both sides -/
section FS
variable {tw nt : Int → Int}
theorem pig : ∀ (m n : Nat) (f : Nat → Nat), (∀ i, i < n → f i < m) → (∀ i j, i < n → j < n → f i = f j → i = j) → n ≤ m
  | 0, n, f, h, _ => by
    cases n with
    | zero => exact Nat.le_refl _
    | succ n => exact absurd (h 0 (by omega)) (Nat.not_lt_zero _)
  | m + 1, n, f, h, hj => by
    cases n with
    | zero => exact Nat.zero_le _
    | succ n =>
      have ih := pig m n (fun i => if f i = m then f n else f i) (fun i hi => by
        have hi' := h i (by omega)
        have hn := h n (by omega)
        have hne : f i ≠ f n := fun e => by have := hj i n (by omega) (by omega) e; omega
        split <;> omega) (fun i j hi hj' e => by
        have n1 : f i ≠ f n := fun e => by have := hj i n (by omega) (by omega) e; omega
        have n2 : f j ≠ f n := fun e => by have := hj j n (by omega) (by omega) e; omega
        by_cases a : f i = m <;> by_cases b : f j = m
        · exact hj i j (by omega) (by omega) (by omega)
        · rw [if_pos a, if_neg b] at e; exact absurd e.symm n2
        · rw [if_neg a, if_pos b] at e; exact absurd e n1
        · rw [if_neg a, if_neg b] at e; exact hj i j (by omega) (by omega) e)
      omega
/-- a step from one square to another -/
def sp1 (tw : Int → Int) (a b : Int) : Prop := ∃ w, 0 ≤ w ∧ w < 4 ∧ stp a w = b ∧ 0 ≤ b ∧ tw b ≠ 1
def spN (tw : Int → Int) (fr : Int) : Nat → Int → Prop
  | 0, s => s = fr
  | n + 1, s => ∃ a, spN tw fr n a ∧ sp1 tw a s
theorem sp1_rng {a b : Int} (ha : 0 ≤ a ∧ a < 100) (h : sp1 tw a b) : 0 ≤ b ∧ b < 100 := by
  obtain ⟨w, w0, w1, e, b0, -⟩ := h
  have := stp_rng (w := w) ha
  omega
theorem spN_rng {fr : Int} (hf : 0 ≤ fr ∧ fr < 100) : ∀ (n : Nat) (s : Int), spN tw fr n s → 0 ≤ s ∧ s < 100
  | 0, s, h => by have : s = fr := h; omega
  | n + 1, s, h => by
    obtain ⟨a, ha, h1⟩ := h
    exact sp1_rng (spN_rng hf n a ha) h1
/-- the number of steps is the least -/
def hopP (tw : Int → Int) (fr s d : Int) : Prop := 0 ≤ d ∧ spN tw fr d.toNat s ∧ ∀ n : Nat, spN tw fr n s → d ≤ n
theorem hop_uni {fr s d e : Int} (h : hopP tw fr s d) (h' : hopP tw fr s e) : d = e := by
  have a := h.2.2 _ h'.2.1
  have b := h'.2.2 _ h.2.1
  have := h.1
  have := h'.1
  omega
theorem hop_ex {fr s : Int} {n : Nat} (h : spN tw fr n s) : ∃ d, hopP tw fr s d := by
  obtain ⟨m, hm, hl⟩ := least_nat (P := fun n => spN tw fr n s) n h
  exact ⟨m, by omega, by simpa using hm, fun j hj => by have := hl j hj; omega⟩
/-- each step of a shortest way has its own distance: so it has fewer than 100 -/
theorem hop_back {fr : Int} : ∀ (n : Nat) (s : Int), hopP tw fr s n → ∃ f : Nat → Int, f n = s ∧ ∀ i, i ≤ n → hopP tw fr (f i) i
  | 0, s, h => ⟨fun _ => s, rfl, fun i hi => by rw [show i = 0 by omega]; exact h⟩
  | n + 1, s, h => by
    obtain ⟨a, ha, h1⟩ : ∃ a, spN tw fr n a ∧ sp1 tw a s := by
      have := h.2.1
      rw [show (((n + 1 : Nat) : Int)).toNat = n + 1 by omega] at this
      exact this
    have hm : hopP tw fr a n := ⟨by omega, by simpa using ha, fun j hj => by
      have := h.2.2 (j + 1) ⟨a, hj, h1⟩
      omega⟩
    obtain ⟨f, f0, f1⟩ := hop_back n a hm
    refine ⟨fun i => if i = n + 1 then s else f i, if_pos rfl, fun i hi => ?_⟩
    dsimp only
    by_cases q : i = n + 1
    · rw [if_pos q, q]; exact h
    · rw [if_neg q]; exact f1 i (by omega)
theorem hop_lt {fr s d : Int} (hf : 0 ≤ fr ∧ fr < 100) (h : hopP tw fr s d) : d < 100 := by
  obtain ⟨n, rfl⟩ := Int.eq_ofNat_of_zero_le h.1
  obtain ⟨f, -, f1⟩ := hop_back n s h
  have := pig 100 (n + 1) (fun i => (f i).toNat) (fun i hi => by
    have := spN_rng hf _ _ (f1 i (by omega)).2.1
    show (f i).toNat < 100
    omega) (fun i j hi hj e => by
    have a := f1 i (by omega)
    have b := f1 j (by omega)
    have ra := spN_rng hf _ _ a.2.1
    have rb := spN_rng hf _ _ b.2.1
    have e' : f i = f j := by
      have : (f i).toNat = (f j).toNat := e
      omega
    rw [e'] at a
    have := hop_uni a b
    omega)
  omega
/-! the reference: a hundred rounds -/
def bfS (tw : Int → Int) (fr : Int) (T : Int → Int) : Prop := ∀ s, 0 ≤ s → s < 100 → 0 ≤ T s ∧ T s ≤ 1000000 ∧ (T s < 1000000 → spN tw fr (T s).toNat s)
def bfR (tw : Int → Int) (fr : Int) (T : Int → Int) (r : Int) : Prop := ∀ (n : Nat) (s : Int), (n : Int) ≤ r → spN tw fr n s → T s ≤ n
/-- relaxed so far in a round: from squares before a, from a itself the ways before w -/
def bfM (tw : Int → Int) (fr : Int) (T0 T : Int → Int) (r a w : Int) : Prop := (∀ s, 0 ≤ s → s < 100 → T s ≤ T0 s) ∧ ∀ (s b v : Int), 0 ≤ s → s < 100 → (s < a ∨ (s = a ∧ v < w)) → 0 ≤ v → v < 4 → stp s v = b → 0 ≤ b → tw b ≠ 1 → T0 s ≤ r → T b ≤ T0 s + 1
theorem p_fewR (hT : twR tw) {fr to : Int} (hf : 0 ≤ fr ∧ fr < 100) (ht : 0 ≤ to ∧ to < 100) {d : Int} (hd : hopP tw fr to d) {t1 : Nat → Int32} {post : Int32 → (Nat → Int32) → Prop} (h : ∀ T, post (zi d) T) : wp_X12_fewestSteps (zA tw) t1 (zi fr) (zi to) post := by
  obtain ⟨T0, rfl, hT0⟩ := zA_ex t1
  simp only [wp_X12_fewestSteps]
  refine lp_inv (fun i s' => ∃ T : Int → Int, i32 T ∧ s' = (zA T, zi fr, zi to, zi i) ∧ ∀ s, 0 ≤ s → s < (i : Int) → T s = if s = fr then 0 else 1000000) 100 ?_ ?_ 0 (Nat.zero_le _) ⟨T0, hT0, rfl, fun s a b => by omega⟩
  case refine_2 =>
    rintro i hi s' ⟨T, iT, rfl, hs⟩ kb hkb
    have hni : ((i + 1 : Nat) : Int) = (i : Int) + 1 := by omega
    simp (disch := omega) only [wp_X12_fewestSteps_L2, forall_eq, zi_lit, zi_le, zi_eq, zi_in, zA_upd, zi_add]
    have key : ∀ v : Int, (v = if (i : Int) = fr then 0 else 1000000) → kb (zA (upI T i v), zi fr, zi to, zi (i + 1)) := fun v hv => hkb _ ⟨upI T i v, i32_up iT (by split at hv <;> omega), by rw [hni], fun s a b => by
      by_cases q : s = i
      · rw [q, upI_s, hv]
      · rw [upI_n q]; exact hs s a (by omega)⟩
    refine ⟨fun u => by omega, fun _ => ⟨fun u => ⟨by omega, key _ (by rw [if_neg u])⟩, fun u => ⟨by omega, key _ (by rw [if_pos u])⟩⟩⟩
  rintro s' ⟨T, iT, rfl, hs⟩ kb
  simp (disch := omega) only [wp_X12_fewestSteps_L2, zi_lit, zi_le]
  refine ⟨fun _ => ?_, fun u => absurd (by decide) u⟩
  have S0 : bfS tw fr T := fun s a b => by
    rw [hs s a (by omega)]
    split
    next q => exact ⟨by omega, by omega, fun _ => q⟩
    next q => omega
  have R0 : bfR tw fr T 0 := fun n s hn hp => by
    have : n = 0 := by omega
    subst this
    have e : s = fr := hp
    rw [hs s (by omega) (by omega), if_pos e]
    omega
  refine lp_inv (fun i s' => ∃ T : Int → Int, i32 T ∧ s' = (zA T, zi to, zi i) ∧ bfS tw fr T ∧ bfR tw fr T i) 100 ?_ ?_ 0 (Nat.zero_le _) ⟨T, iT, rfl, S0, R0⟩
  · rintro s' ⟨T, iT, rfl, hS, hR⟩ kb2
    simp (disch := omega) only [wp_X12_fewestSteps_L34, zi_lit, zi_le, zi_in, zA_get]
    refine ⟨fun _ => ⟨by omega, ?_⟩, fun u => absurd (by decide) u⟩
    have l := hop_lt hf hd
    have a1 := hR d.toNat to (by have := hd.1; omega) hd.2.1
    have a2 := hS to ht.1 ht.2
    have a3 := hd.2.2 _ (a2.2.2 (by have := hd.1; omega))
    rw [show T to = d by have := hd.1; omega]
    exact h _
  rintro i hi s' ⟨T, iT, rfl, hS, hR⟩ kb2 hkb2
  have hni : ((i + 1 : Nat) : Int) = (i : Int) + 1 := by omega
  simp (disch := omega) only [wp_X12_fewestSteps_L34, zi_lit, zi_le]
  refine ⟨fun u => by omega, fun _ => ?_⟩
  refine lp_inv (fun a s' => ∃ T' : Int → Int, i32 T' ∧ s' = (zA T', zi to, zi i, zi a) ∧ bfS tw fr T' ∧ bfM tw fr T T' i a 0) 100 ?_ ?_ 0 (Nat.zero_le _) ⟨T, iT, rfl, hS, fun _ _ _ => Int.le_refl _, fun s b v s0 s1 hh v0 => by omega⟩
  · rintro s' ⟨T', iT', rfl, hS', hM⟩ kb3
    simp (disch := omega) only [wp_X12_fewestSteps_L43, forall_eq, zi_lit, zi_le, zi_add]
    refine ⟨fun _ => hkb2 _ ⟨T', iT', by rw [hni], hS', fun n s hn hp => ?_⟩, fun u => absurd (by decide) u⟩
    by_cases q : (n : Int) ≤ i
    · have rs := spN_rng hf n s hp
      exact Int.le_trans (hM.1 s rs.1 rs.2) (hR n s q hp)
    · obtain ⟨n', rfl⟩ : ∃ n', n = n' + 1 := ⟨n - 1, by omega⟩
      obtain ⟨a, ha, w, w0, w1, e, b0, b1⟩ := hp
      have ra := spN_rng hf n' a ha
      have l := hR n' a (by omega) ha
      have := hM.2 a s w ra.1 ra.2 (Or.inl (by omega)) w0 w1 e b0 b1 (by omega)
      omega
  rintro a ha s' ⟨T', iT', rfl, hS', hM⟩ kb3 hkb3
  have hna : ((a + 1 : Nat) : Int) = (a : Int) + 1 := by omega
  simp (disch := omega) only [wp_X12_fewestSteps_L43, forall_eq, zi_lit, zi_le, zi_add]
  refine ⟨fun u => by omega, fun _ => ?_⟩
  have far : ∀ T'' : Int → Int, i32 T'' → bfS tw fr T'' → ∀ w : Int, bfM tw fr T T'' i a w → (4 ≤ w ∨ 1000000 ≤ T'' a) → kb3 (zA T'', zi to, zi i, zi ((a : Int) + 1)) := by
    intro T'' i2 hS2 w hM2 hw
    refine hkb3 _ ⟨T'', i2, by rw [hna], hS2, hM2.1, fun s b v s0 s1 hh v0 v1 e b0 b1 hr => ?_⟩
    by_cases q : s < a ∨ (s = a ∧ v < w)
    · exact hM2.2 s b v s0 s1 q v0 v1 e b0 b1 hr
    · have e2 : s = a := by omega
      rcases hw with hw | hw
      · omega
      · have := hM2.1 a (by omega) (by omega)
        rw [e2] at hr
        omega
  refine lp_inv (fun w s' => ∃ T'' : Int → Int, i32 T'' ∧ s' = (zA T'', zi to, zi i, zi a, zi w) ∧ bfS tw fr T'' ∧ bfM tw fr T T'' i a w) 4 ?_ ?_ 0 (Nat.zero_le _) ⟨T', iT', rfl, hS', hM⟩
  · rintro s' ⟨T'', i2, rfl, hS2, hM2⟩ kb4
    simp (disch := omega) only [wp_X12_fewestSteps_L53, forall_eq, zi_lit, zi_le, zi_add]
    exact ⟨fun _ => far T'' i2 hS2 _ hM2 (by omega), fun u => absurd (by decide) u⟩
  rintro w hw s' ⟨T'', i2, rfl, hS2, hM2⟩ kb4 hkb4
  have hnw : ((w + 1 : Nat) : Int) = (w : Int) + 1 := by omega
  have sa := hS2 a (by omega) (by omega)
  have sr := stp_rng (s := a) (w := w) (by omega)
  have stay : (∀ b, stp a w = b → 0 ≤ b → tw b ≠ 1 → T'' b ≤ T'' a + 1) → kb4 (zA T'', zi to, zi i, zi a, zi ((w : Int) + 1)) := by
    intro z
    refine hkb4 _ ⟨T'', i2, by rw [hnw], hS2, hM2.1, fun s b v s0 s1 hh v0 v1 e b0 b1 hr => ?_⟩
    by_cases q : s < a ∨ (s = a ∧ v < w)
    · exact hM2.2 s b v s0 s1 q v0 v1 e b0 b1 hr
    · have e2 : s = a := by omega
      have e3 : v = w := by omega
      rw [e2, e3] at e
      have l := z b e b0 b1
      have := hM2.1 a (by omega) (by omega)
      rw [e2]
      omega
  simp (disch := omega) only [wp_X12_fewestSteps_L53, forall_eq, zi_lit, zi_le, zi_add, zi_in, zA_get]
  refine ⟨fun u => by omega, fun _ => ⟨by omega, fun u => far T'' i2 hS2 w hM2 (Or.inr u), fun u => ?_⟩⟩
  refine p_stepTo (by omega) (by omega) ?_
  have ts := hT.1 (stp a w)
  rw [zi_lt (by omega)]
  refine ⟨fun v => stay (fun b e b0 b1 => by omega), fun v => ?_⟩
  have ss := hS2 (stp a w) (by omega) (by omega)
  simp (disch := omega) only [zi_in, zA_get, zi_eq, zi_le, zA_upd]
  refine ⟨by omega, fun x => stay (fun b e b0 b1 => absurd (by rw [← e]; exact x) b1), fun x => ⟨by omega, by omega, fun y => stay (fun b e b0 b1 => by rw [← e]; exact y), fun y => ⟨by omega, by omega, ?_⟩⟩⟩
  refine hkb4 _ ⟨upI T'' (stp a w) (T'' a + 1), i32_up i2 (by omega), by rw [hnw], fun s s0 s1 => ?_, fun s s0 s1 => ?_, fun s b v s0 s1 hh v0 v1 e b0 b1 hr => ?_⟩
  · by_cases q : s = stp a w
    · rw [q, upI_s]
      have l := sa.2.2 (by omega)
      have pth : spN tw fr (T'' a + 1).toNat (stp a w) := by
        rw [show (T'' a + 1).toNat = (T'' a).toNat + 1 by omega]
        exact ⟨a, l, w, by omega, by omega, rfl, by omega, x⟩
      exact ⟨by omega, by omega, fun _ => pth⟩
    · rw [upI_n q]; exact hS2 s s0 s1
  · by_cases q : s = stp a w
    · rw [q, upI_s]
      have := hM2.1 (stp a w) (by omega) (by omega)
      omega
    · rw [upI_n q]; exact hM2.1 s s0 s1
  · by_cases q : b = stp a w
    · rw [q, upI_s]
      by_cases q2 : s < a ∨ (s = a ∧ v < w)
      · have := hM2.2 s b v s0 s1 q2 v0 v1 e b0 b1 hr
        rw [q] at this
        omega
      · have e2 : s = a := by omega
        have := hM2.1 a (by omega) (by omega)
        rw [e2]
        omega
    · rw [upI_n q]
      by_cases q2 : s < a ∨ (s = a ∧ v < w)
      · exact hM2.2 s b v s0 s1 q2 v0 v1 e b0 b1 hr
      · have e2 : s = a := by omega
        have e3 : v = w := by omega
        rw [e2, e3] at e
        exact absurd e.symm q
end FS
