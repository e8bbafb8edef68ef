/-! spots: sets of trees -/
def btS (S : Int) (i : Nat) : Int := S / 2 ^ i % 2
theorem bit_all : ∀ s : Fin 256, ∀ i : Fin 8, ((nI s.val >>> (nI i.val &&& 31)) &&& 1) = nI (s.val / 2 ^ i.val % 2) := by decide +kernel
theorem bit_zi {S : Int} {i : Nat} (hS : 0 ≤ S ∧ S < 256) (hi : i < 8) : ((zi S >>> (zi i &&& 31)) &&& 1) = zi (btS S i) := by
  obtain ⟨n, rfl⟩ := Int.eq_ofNat_of_zero_le hS.1
  exact bit_all ⟨n, by omega⟩ ⟨i, hi⟩
theorem btS_01 (S : Int) (i : Nat) : btS S i = 0 ∨ btS S i = 1 := by rw [btS]; omega
def cnt8 (S : Int) : Nat → Int
  | 0 => 0
  | i + 1 => cnt8 S i + btS S i
theorem cnt8_rng (S : Int) : ∀ n : Nat, 0 ≤ cnt8 S n ∧ cnt8 S n ≤ n
  | 0 => by simp [cnt8]
  | n + 1 => by
    have := cnt8_rng S n
    have := btS_01 S n
    rw [cnt8]
    omega
def bcI (p : Int32) : Int32 :=
  let x9 := (p - (((Int32.toUInt32 p >>> (Int32.toUInt32 1 &&& Int32.toUInt32 31)).toInt32) &&& 1431655765))
  let x23 := ((x9 &&& 858993459) + (((Int32.toUInt32 x9 >>> (Int32.toUInt32 2 &&& Int32.toUInt32 31)).toInt32) &&& 858993459))
  let x33 := ((x23 + ((Int32.toUInt32 x23 >>> (Int32.toUInt32 4 &&& Int32.toUInt32 31)).toInt32)) &&& 252645135)
  let x40 := (x33 + ((Int32.toUInt32 x33 >>> (Int32.toUInt32 8 &&& Int32.toUInt32 31)).toInt32))
  let x47 := (x40 + ((Int32.toUInt32 x40 >>> (Int32.toUInt32 16 &&& Int32.toUInt32 31)).toInt32))
  x47 &&& 63
theorem bcI_all : ∀ s : Fin 256, bcI (zi (s.val : Int)) = zi (cnt8 (s.val : Int) 8) := by decide +kernel
theorem p_bitC {S : Int} (hS : 0 ≤ S ∧ S < 256) {post : Int32 → Prop} (h : post (zi (cnt8 S 8))) : wp_J6_bitCount_0f7a4 (zi S) post := by
  obtain ⟨n, rfl⟩ := Int.eq_ofNat_of_zero_le hS.1
  simp only [wp_J6_bitCount_0f7a4, forall_eq]
  have e := bcI_all ⟨n, by omega⟩
  rw [← e] at h
  exact h
theorem p_bitsR {S : Int} (hS : 0 ≤ S ∧ S < 256) {post : Int32 → Prop} (h : post (zi (cnt8 S 8))) : wp_X12_bits (zi S) post := by
  simp only [wp_X12_bits]
  refine lp_for0 (fun i => (zi S, zi (cnt8 S i), zi i)) 8 rfl (fun kb => ?_) (fun i hi kb hkb => ?_)
  · simp (disch := omega) only [wp_X12_bits_L4, zi_lit, zi_le]
    exact ⟨fun _ => h, fun z => absurd (by decide) z⟩
  · have hni : ((i + 1 : Nat) : Int) = (i : Int) + 1 := by omega
    simp only [wp_X12_bits_L4]
    rw [bit_zi hS hi]
    simp (disch := omega) only [zi_lit, zi_le, forall_eq, zi_add]
    rw [hni] at hkb
    exact ⟨fun z => by omega, fun _ => hkb⟩
/-- a town with things on the spots of a set -/
def trG (tw sp : Int → Int) (S K H : Int) : Nat → Int → Int
  | 0 => tw
  | n + 1 => if btS S n = 1 then putT (trG tw sp S K H n) (sp n) K H else trG tw sp S K H n
def spO (tw sp : Int → Int) (z : Int) : Prop := (0 ≤ z ∧ z ≤ 8) ∧ ∀ i, 0 ≤ i → i < z → (0 ≤ sp i ∧ sp i < 100) ∧ tw (sp i) = 0 ∧ ∀ j, 0 ≤ j → j < i → sp j ≠ sp i
section TG
variable {tw sp : Int → Int} {z S K H : Int}
theorem trG_in {n : Nat} {j : Int} (h : ∀ i : Nat, i < n → btS S i = 1 → (0 ≤ sp i ∧ sp i < 100) ∧ sp i ≠ j ∧ 100 + sp i ≠ j) : trG tw sp S K H n j = tw j := by
  induction n with
  | zero => rfl
  | succ n ih =>
    rw [trG]
    have ih' := ih (fun i hi => h i (by omega))
    split
    · next q =>
      have := h n (by omega) q
      rw [putT, upI_n (by omega), upI_n (by omega)]
      exact ih'
    · exact ih'
theorem trG_at (hz : spO tw sp z) {n : Nat} (hn : (n : Int) ≤ z) {i : Nat} (hi : i < n) (hb : btS S i = 1) : trG tw sp S K H n (sp i) = K ∧ trG tw sp S K H n (100 + sp i) = H := by
  induction n with
  | zero => omega
  | succ n ih =>
    have si := (hz.2 i (by omega) (by omega)).1
    have sn := hz.2 n (by omega) (by omega)
    rw [trG]
    by_cases e : i = n
    · subst e
      rw [if_pos hb, putT, upI_n (by omega), upI_s, upI_s]
      exact ⟨rfl, rfl⟩
    · have ne := sn.2.2 i (by omega) (by omega)
      have ih' := ih (by omega) (by omega)
      split
      · rw [putT, upI_n (by omega), upI_n ne, upI_n (by omega), upI_n (by omega)]
        exact ih'
      · exact ih'
theorem trG_ag (hz : spO tw sp z) : ∀ n : Nat, (n : Int) ≤ z → agT tw (trG tw sp S K H n) := by
  intro n hn j hj
  refine trG_in (fun i hi _ => ?_)
  have := (hz.2 i (by omega) (by omega)).1
  exact ⟨this, by omega, by omega⟩
/-- at a square: of the set, or as it was -/
theorem trG_c (hz : spO tw sp z) {n : Nat} (hn : (n : Int) ≤ z) {j : Int} (h0 : 0 ≤ j) (h1 : j < 100) : (∃ i : Nat, i < n ∧ btS S i = 1 ∧ sp i = j ∧ trG tw sp S K H n j = K ∧ trG tw sp S K H n (100 + j) = H) ∨ ((∀ i : Nat, i < n → btS S i = 1 → sp i ≠ j) ∧ trG tw sp S K H n j = tw j ∧ trG tw sp S K H n (100 + j) = tw (100 + j)) := by
  by_cases q : ∃ i : Nat, i < n ∧ btS S i = 1 ∧ sp i = j
  · obtain ⟨i, a, b, rfl⟩ := q
    exact Or.inl ⟨i, a, b, rfl, trG_at hz hn a b⟩
  · have ne : ∀ i : Nat, i < n → btS S i = 1 → sp i ≠ j := fun i a b c => q ⟨i, a, b, c⟩
    refine Or.inr ⟨ne, trG_in (fun i a b => ?_), trG_in (fun i a b => ?_)⟩
    · have := (hz.2 i (by omega) (by omega)).1
      exact ⟨this, ne i a b, by omega⟩
    · have := (hz.2 i (by omega) (by omega)).1
      have := ne i a b
      exact ⟨by omega, by omega, by omega⟩
theorem trG_R (hT : twR tw) (hz : spO tw sp z) (hK : 0 ≤ K ∧ K ≤ 3) (hH : 0 ≤ H ∧ H ≤ 99) : ∀ n : Nat, (n : Int) ≤ z → twR (trG tw sp S K H n)
  | 0, _ => hT
  | n + 1, hn => by
    have ih := trG_R hT hz hK hH n (by omega)
    rw [trG]
    split
    · exact putT_R ih (hz.2 n (by omega) (by omega)).1 hK hH
    · exact ih
theorem trG_br (hz : spO tw sp z) (hb : brR tw) (hK : 2 ≤ K) {n : Nat} (hn : (n : Int) ≤ z) : brR (trG tw sp S K H n) := by
  intro s s0 s1 e
  rcases trG_c (S := S) (K := K) (H := H) hz hn s0 s1 with ⟨i, _, _, _, a, _⟩ | ⟨_, a, b⟩
  · omega
  · rw [b]; exact hb s s0 s1 (by omega)
theorem trG_bare (hz : spO tw sp z) {n : Nat} (hn : (n : Int) < z) : trG tw sp S K H n (sp n) = 0 := by
  have sn := hz.2 n (by omega) hn
  rw [trG_in (fun i hi _ => ?_)]
  · exact sn.2.1
  · have si := (hz.2 i (by omega) (by omega)).1
    exact ⟨si, sn.2.2 i (by omega) (by omega), by omega⟩
theorem trG_same (hz : spO tw sp z) (hK : 2 ≤ K) {n : Nat} (hn : (n : Int) ≤ z) : ∀ s, 0 ≤ s → s < 100 → (trG tw sp S K H n s = 1 ↔ tw s = 1) := by
  intro s s0 s1
  rcases trG_c (S := S) (K := K) (H := H) hz hn s0 s1 with ⟨i, a, b, c, e, _⟩ | ⟨_, a, _⟩
  · have := (hz.2 i (by omega) (by omega)).2.1
    rw [c] at this
    rw [e, this]; omega
  · rw [a]
theorem trG_back (hz : spO tw sp z) (hb : brR tw) {n : Nat} (hn : (n : Int) ≤ z) : trG (trG tw sp S K H n) sp S 0 0 n = tw := by
  funext j
  have hz2 : ∀ i : Nat, i < n → (0 ≤ sp i ∧ sp i < 100) ∧ tw (sp i) = 0 := fun i hi => ⟨(hz.2 i (by omega) (by omega)).1, (hz.2 i (by omega) (by omega)).2.1⟩
  have at0 : ∀ (tv : Int → Int) (n : Nat), (n : Int) ≤ z → ∀ i : Nat, i < n → btS S i = 1 → trG tv sp S 0 0 n (sp i) = 0 ∧ trG tv sp S 0 0 n (100 + sp i) = 0 := by
    intro tv n
    induction n with
    | zero => intro _ i hi; omega
    | succ n ih =>
      intro hn i hi hbi
      have si := (hz.2 i (by omega) (by omega)).1
      have sn := hz.2 n (by omega) (by omega)
      rw [trG]
      by_cases e : i = n
      · subst e
        rw [if_pos hbi, putT, upI_n (by omega), upI_s, upI_s]
        exact ⟨rfl, rfl⟩
      · have ne := sn.2.2 i (by omega) (by omega)
        have ih' := ih (by omega) i (by omega) hbi
        split
        · rw [putT, upI_n (by omega), upI_n ne, upI_n (by omega), upI_n (by omega)]
          exact ih'
        · exact ih'
  by_cases q : ∃ i : Nat, i < n ∧ btS S i = 1 ∧ (sp i = j ∨ 100 + sp i = j)
  · obtain ⟨i, a, b, c⟩ := q
    have h := at0 (trG tw sp S K H n) n hn i a b
    have t := hz2 i a
    rcases c with rfl | rfl
    · rw [h.1, t.2]
    · rw [h.2, hb _ t.1.1 t.1.2 t.2]
  · have ne : ∀ i : Nat, i < n → btS S i = 1 → (0 ≤ sp i ∧ sp i < 100) ∧ sp i ≠ j ∧ 100 + sp i ≠ j := fun i a b => ⟨(hz2 i a).1, fun c => q ⟨i, a, b, Or.inl c⟩, fun c => q ⟨i, a, b, Or.inr c⟩⟩
    rw [trG_in ne, trG_in ne]
end TG
/-- sets within all spots -/
theorem btS_hi {S : Int} {n : Nat} (hS : 0 ≤ S ∧ S < 2 ^ n) {i : Nat} (hi : n ≤ i) : btS S i = 0 := by
  rw [btS, Int.ediv_eq_zero_of_lt hS.1]
  · rfl
  · have : (2 : Int) ^ n ≤ 2 ^ i := by
      have := Nat.pow_le_pow_right (show 0 < 2 by decide) hi
      exact_mod_cast this
    omega
theorem btS_full {n i : Nat} (hi : i < n) (hn : n ≤ 8) : btS (2 ^ n - 1) i = 1 := by
  have : ∀ n : Fin 9, ∀ i : Fin 8, i.val < n.val → btS (2 ^ n.val - 1) i.val = 1 := by decide
  exact this ⟨n, by omega⟩ ⟨i, by omega⟩ hi
theorem trG_hi {tw sp : Int → Int} {S K H : Int} {n : Nat} (hS : 0 ≤ S ∧ S < 2 ^ n) : ∀ j : Nat, trG tw sp S K H (n + j) = trG tw sp S K H n
  | 0 => rfl
  | j + 1 => by
    show (if btS S (n + j) = 1 then _ else _) = _
    rw [if_neg (by rw [btS_hi hS (by omega)]; decide)]
    exact trG_hi hS j
section MO
variable {tw : Int → Int} {vf : Int → Int → Int → Int32}
theorem snC_le {tv tu : Int → Int} {d : Int} (h : ∀ m s, 0 ≤ s → s < 100 → dimP tv vf d m s → dimP tu vf d m s) (k : Int) : snC tu vf d k ≤ snC tv vf d k := by
  rcases snC_01 tu vf d k with ⟨a, b⟩ | ⟨a, b⟩ <;> rcases snC_01 tv vf d k with ⟨c, e⟩ | ⟨c, e⟩
  · omega
  · omega
  · exact absurd (h _ _ (by omega) (by omega) e) b
  · omega
theorem pt_le {nx : Int → Int → Int} {cs cs' : Int → Int → Int} {nw to : Int} (h : ∀ k w, cs' k w ≤ cs k w) : ∀ (ws : List Int) (k k' c : Int), pt nx cs nw to ws k k' c → ∃ c', c' ≤ c ∧ pt nx cs' nw to ws k k' c'
  | [], k, k', c, q => ⟨c, Int.le_refl _, q⟩
  | w :: ws, k, k', c, q => by
    obtain ⟨h1, h2, h3, h4, h5⟩ := q
    obtain ⟨c', hc, hp'⟩ := pt_le h ws _ k' _ h5
    have := h k w
    exact ⟨c' + cs' k w, by omega, h1, h2, h3, h4, by rwa [Int.add_sub_cancel]⟩
/-- more shade, less sun -/
theorem lsC_mono {tv tu : Int → Int} {d p to k : Int} (hp : 1 ≤ p ∧ p ≤ 3) (ag : agT tv tu) (ho : ∀ s, 0 ≤ s → s < 100 → (tu s = 1 ↔ tv s = 1)) (h : ∀ m s, 0 ≤ s → s < 100 → dimP tv vf d m s → dimP tu vf d m s) (h0 : 0 ≤ k) (h1 : k < 12000) : lsC tu vf d p to 119 k ≤ lsC tv vf d p to 119 k := by
  have hu := lsC_ok (tw := tu) (vf := vf) (d := d) (to := to) (bym := 119) hp h0 h1
  have hv := lsC_ok (tw := tv) (vf := vf) (d := d) (to := to) (bym := 119) hp h0 h1
  by_cases hl : lsC tv vf d p to 119 k < 1000000
  · obtain ⟨ws, k', x1, x2, x3, x4⟩ := hv.1 hl
    have e : (nxT tu (shC tu vf d) p) = nxT tv (shC tv vf d) p := by
      funext k w
      rw [shC_ag ag]
      exact nxT_open hp ho
    obtain ⟨c', hc, hq⟩ := pt_le (cs' := csT (snC tu vf d) p) (fun k w => csm_mono (snC_le h) _) ws k k' _ x1
    rw [← e] at hq
    have := hu.2.1 ws k' c' hq x2 (by omega)
    omega
  · have := hu.2.2
    have := hv.2.2
    omega
end MO
