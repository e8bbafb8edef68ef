/-! labels of one node -/
section LA
variable {eb : Bool} {day to hot cool wt aims : Int} {dw : Nat → Int64} {ex nt tw sh : Int → Int} {sl : Int} {ww sw : Nat → Int64} {p bears mends en nw lim : Int}
theorem cost_all (hh : 0 ≤ hot ∧ hot ≤ 99) (hc : 0 ≤ cool ∧ cool ≤ 99) (hex : ∀ k, 0 ≤ k → k < 12000 → 0 ≤ ex k ∧ ex k ≤ 900) (k : Int) : 0 ≤ costF eb hot cool dw ex k ∧ costF eb hot cool dw ex k ≤ 1000 := by
  have h : 0 ≤ (if eb = true ∧ 0 ≤ k ∧ k < 12000 then ex k else 0) ∧ (if eb = true ∧ 0 ≤ k ∧ k < 12000 then ex k else 0) ≤ 900 := by
    split
    · next q => exact hex k q.2.1 q.2.2
    · omega
  simp only [costF]
  generalize (if eb = true ∧ 0 ≤ k ∧ k < 12000 then ex k else 0) = x at *
  split <;> omega
theorem csm_all {c : Int → Int} (hc : ∀ k, 0 ≤ c k ∧ c k ≤ 1000) {m s : Int} : ∀ n : Nat, 0 ≤ csm c m s n ∧ csm c m s n ≤ 1000 * n
  | 0 => by simp [csm]
  | n + 1 => by
    have h := csm_all hc (m := m) (s := s) n
    have h2 := hc (100 * (m + n) + s)
    simp only [csm]
    omega
theorem p_spent (A : Ask day to hot cool wt aims ex nt tw sh sl sw p bears mends en) (ha : aims ≠ 3) {m s n : Int} (hn : 0 ≤ n) (hm : 0 ≤ m ∧ m + n ≤ 200) (hs : 0 ≤ s ∧ s < 100) {post : Int32 → Prop} (h : post (zi (csm (costF eb hot cool dw ex) m s n.toNat))) : wp_X9_spent eb (zi hot) (zi cool) (zi aims) dw (zA ex) (zi bears) (zi mends) (zi m) (zi n) (zi s) post := by
  obtain ⟨hd, hto, hh, hc, hwt, ha2, hex, hnti, hnt, hsl, hsh, hp, hb, hme, hen⟩ := A
  have hex2 : ∀ k, 0 ≤ k → k < 12000 → -1000 ≤ ex k ∧ ex k ≤ 1000 := fun k h0 h1 => by have := hex k h0 h1; omega
  have hcB : cB (costF eb hot cool dw ex) := cB_cost hh hc hex
  simp only [wp_X9_spent]
  refine lp_for0 (fun i => (zi m, zi n, zi s, zi (csm (costF eb hot cool dw ex) m s i), zi (m + i))) n.toNat (by simp [csm, zi_lit]) (fun kb => ?_) (fun i hi kb hkb => ?_)
  · simp (disch := omega) only [wp_X9_spent_L6, zi_add, zi_le]
    exact ⟨fun _ => h, fun z => by omega⟩
  · have r := csm_all (cost_all (eb := eb) (dw := dw) hh hc hex) (m := m) (s := s) i
    simp (disch := omega) only [wp_X9_spent_L6, zi_add, zi_le]
    refine ⟨fun z => by omega, fun _ => ?_⟩
    refine p_after hh hc ha2 hex2 hb hme (by omega) (by omega) hs ?_
    simp only [forall_eq, zi_lit, zi_add, aftF, if_neg ha]
    have e : m + ((i + 1 : Nat) : Int) = m + i + 1 := by omega
    simp only [csm, e] at hkb
    exact hkb
theorem p_labelled {La : Int → Int} {m s : Int} (hm : -10 ≤ m ∧ m < 1000) (hs : -1 ≤ s ∧ s < 100) {post : Int32 → Prop} (h : post (zi (if 0 ≤ s ∧ 0 ≤ 100 * m + s ∧ 100 * m + s < 12000 then La (100 * m + s) else 268435456))) : wp_X9_labelled (zA La) (zi m) (zi s) post := by
  have hk : m * 100 + s = 100 * m + s := by omega
  simp (disch := omega) only [wp_X9_labelled, forall_eq, zi_lit, zi_mul, zi_add, hk, zi_lt, nI_zi 12000]
  refine ⟨fun z => ?_, fun z => ⟨fun y => ?_, fun y => ⟨fun x => ⟨?_, ?_⟩, fun x => ?_⟩⟩⟩
  · rw [if_neg (by omega)] at h; exact h
  · rw [if_neg (by omega)] at h; exact h
  · rw [zi_in (by omega)]; omega
  · rw [zA_get (by omega)]; rw [if_pos (by omega)] at h; exact h
  · rw [if_neg (by omega)] at h; exact h
/-- the label where a piece leads -/
def lbh (nx : Int → Int → Int) (hi : Int) (La : Int → Int) (k w : Int) : Int := if 0 ≤ nx k w ∧ nx k w / 100 ≤ hi then La (nx k w) else 268435456
theorem p_labelBehind (A : Ask day to hot cool wt aims ex nt tw sh sl sw p bears mends en) {La : Int → Int} {m s w hi : Int} (hm : 0 ≤ m ∧ m < 120) (hs : 0 ≤ s ∧ s < 100) (hw : 0 ≤ w ∧ w < 4) (hhi : 0 ≤ hi ∧ hi ≤ 119) {post : Int32 → Prop} (h : post (zi (lbh (nxT tw sh p) hi La (100 * m + s) w))) : wp_X9_labelBehind (zi day) (zA nt) (zi sl) (zA La) sw (zi p) (zi m) (zi s) (zi w) (zi hi) post := by
  obtain ⟨hd, hto, hh, hc, hwt, ha2, hex, hnti, hnt, hsl, hsh, hp, hbz, hme, hen⟩ := A
  have hkd : (100 * m + s) / 100 = m := by omega
  have hkm : (100 * m + s) % 100 = s := by omega
  have hw4 : w ≠ 4 := by omega
  have hpl : plen w p = p := by rw [plen, if_neg hw4]
  have hsr := stp_rng (s := s) (w := w) hs
  simp only [wp_X9_labelBehind, forall_eq, zi_add]
  rw [zi_le (by omega)]
  have far : wp_X9_labelBehind_b31 (zi day) (zA nt) (zi sl) (zA La) sw (zi p) post (zi (m + p)) (-1) ↔ post 268435456 := by
    simp only [wp_X9_labelBehind_b31]
    exact ⟨fun q => q.1 (by decide), fun q => ⟨fun _ => q, fun z => absurd (by decide) z⟩⟩
  by_cases hlate : m + p ≤ hi
  case neg =>
    have e : lbh (nxT tw sh p) hi La (100 * m + s) w = 268435456 := by
      rw [lbh, if_neg]
      intro z
      have a := nxT_ok hp (show 0 ≤ 100 * m + s by omega) (show 100 * m + s < 12000 by omega) z.1
      omega
    rw [e] at h
    exact ⟨fun z => absurd z hlate, fun _ => far.mpr h⟩
  refine ⟨fun _ => ?_, fun z => absurd hlate z⟩
  have hnxe : nxT tw sh p (100 * m + s) w = if stp s w = -1 ∨ tw (stp s w) = 1 ∨ sh (100 * (m + p) + stp s w) ≠ 0 then -1 else 100 * (m + p) + stp s w := by
    simp only [nxT, bhd, hkd, hkm, hpl, if_neg hw4]
    by_cases q : stp s w = -1 ∨ tw (stp s w) = 1 ∨ sh (100 * (m + p) + stp s w) ≠ 0
    · rw [if_pos q, if_pos (by rcases q with q | q | q; exact Or.inr (Or.inl q); exact Or.inr (Or.inr (Or.inl q)); exact Or.inr (Or.inr (Or.inr ⟨hw4, q⟩)))]
    · rw [if_neg q, if_neg (by intro r; rcases r with r | r | r | r; omega; exact q (Or.inl r); exact q (Or.inr (Or.inl r)); exact q (Or.inr (Or.inr r.2)))]
  have hno : nxT tw sh p (100 * m + s) w = -1 → post 268435456 := by
    intro q
    have e : lbh (nxT tw sh p) hi La (100 * m + s) w = 268435456 := by rw [lbh, if_neg (by rw [q]; omega)]
    rw [e] at h; exact h
  refine p_nextTo hnt hnti hs hw ?_
  by_cases q : stp s w = -1 ∨ tw (stp s w) = 1
  · rw [if_pos q]
    exact far.mpr (hno (by rw [hnxe, if_pos (by rcases q with q | q; exact Or.inl q; exact Or.inr (Or.inl q))]))
  · rw [if_neg q]
    have hg : 0 ≤ stp s w ∧ stp s w < 100 := by
      rcases hsr with z | z
      · exact absurd (Or.inl z) q
      · exact z
    have go : sh (100 * (m + p) + stp s w) = 0 → wp_X9_labelBehind_b65 (zi day) (zA nt) (zi sl) (zA La) sw (zi p) post (zi (m + p)) (zi (stp s w)) := by
      intro hsz
      have hnx2 : nxT tw sh p (100 * m + s) w = 100 * (m + p) + stp s w := by
        rw [hnxe, if_neg]
        intro r
        rcases r with r | r | r
        · exact q (Or.inl r)
        · exact q (Or.inr r)
        · exact r hsz
      have e : lbh (nxT tw sh p) hi La (100 * m + s) w = La (100 * (m + p) + stp s w) := by
        rw [lbh, if_pos (by rw [hnx2]; omega), hnx2]
      rw [e] at h
      simp only [wp_X9_labelBehind_b65]
      refine p_labelled (by omega) (by omega) ?_
      rw [if_pos (by omega)]
      exact h
    simp (disch := omega) only [wp_X9_labelBehind_b31, zi_lit, zi_lt, zi_le]
    refine ⟨fun z => by omega, fun _ => ⟨fun z => go (hsh.2 (by omega) _ (by omega) (by omega)), fun z => ?_⟩⟩
    refine p_isShut hsh hd (by omega) hg ?_
    have hiff := hsh.1 (m + p) (stp s w) (by omega) (by omega) hg.1 hg.2
    simp only [b2i_0]
    refine ⟨fun b => go ?_, fun b => ?_⟩
    · refine Classical.byContradiction (fun r => ?_)
      rw [hiff.mpr r] at b
      exact absurd b (by decide)
    · have : hb sw (120 * day + (m + p)) (stp s w) = true := by simpa using b
      exact hno (by rw [hnxe, if_pos (Or.inr (Or.inr (hiff.mp this)))])
/-- the least label of the four steps -/
def lb4 (nx : Int → Int → Int) (hi : Int) (La : Int → Int) (k : Int) : Nat → Int
  | 0 => 268435456
  | n + 1 => if lbh nx hi La k n < lb4 nx hi La k n then lbh nx hi La k n else lb4 nx hi La k n
def labV (nx : Int → Int → Int) (c : Int → Int) (p to hi : Int) (La : Int → Int) (k : Int) : Int :=
  if k % 100 = to then k / 100 else
  let b1 := if lb4 nx hi La k 4 < 268435456 then lb4 nx hi La k 4 + 128 * csm c (k / 100) (k % 100) p.toNat else lb4 nx hi La k 4
  if k / 100 < hi ∧ La (k + 100) < 268435456 then (if La (k + 100) + 128 * c k < b1 then La (k + 100) + 128 * c k else b1) else b1
/-- labels that are in order -/
def laR (lo hi : Int) (La : Int → Int) : Prop := ∀ j, 100 * lo ≤ j → j < 100 * (hi + 1) → 0 ≤ La j ∧ (La j = 268435456 ∨ La j ≤ 100000000)
theorem lb4_rng {nx : Int → Int → Int} {hi : Int} {La : Int → Int} {k : Int} {lo : Int} (hL : laR lo hi La) (hn : ∀ w, 0 ≤ nx k w → 100 * lo ≤ nx k w) : ∀ n, 0 ≤ lb4 nx hi La k n ∧ (lb4 nx hi La k n = 268435456 ∨ lb4 nx hi La k n ≤ 100000000)
  | 0 => by simp [lb4]
  | n + 1 => by
    have ih := lb4_rng hL hn (hi := hi) n
    have b : 0 ≤ lbh nx hi La k n ∧ (lbh nx hi La k n = 268435456 ∨ lbh nx hi La k n ≤ 100000000) := by
      rw [lbh]
      split
      · next h => exact hL _ (hn _ h.1) (by omega)
      · omega
    simp only [lb4]
    split <;> omega
theorem p_label (A : Ask day to hot cool wt aims ex nt tw sh sl sw p bears mends en) (ha : aims ≠ 3) {La : Int → Int} {m s lo hi : Int} (hL : laR lo hi La) (hlo : lo ≤ m) (hm : 0 ≤ m ∧ m ≤ hi) (hs : 0 ≤ s ∧ s < 100) (hhi : hi ≤ 119) {post : (Nat → Int32) → Prop} (h : post (zA (upI La (100 * m + s) (labV (nxT tw sh p) (costF eb hot cool dw ex) p to hi La (100 * m + s))))) : wp_X9_label eb (zi day) (zi to) (zi hot) (zi cool) (zi aims) (zA nt) (zi sl) sw dw (zA ex) (zi p) (zi bears) (zi mends) (zA La) (zi m) (zi s) (zi hi) post := by
  have A' := A
  obtain ⟨hd, hto, hh, hc, hwt, ha2, hex, hnti, hnt, hsl, hsh, hp, hbz, hme, hen⟩ := A'
  have hex2 : ∀ k, 0 ≤ k → k < 12000 → -1000 ≤ ex k ∧ ex k ≤ 1000 := fun k h0 h1 => by have := hex k h0 h1; omega
  have hcB : cB (costF eb hot cool dw ex) := cB_cost hh hc hex
  have hkd : (100 * m + s) / 100 = m := by omega
  have hkm : (100 * m + s) % 100 = s := by omega
  have hk : m * 100 + s = 100 * m + s := by omega
  have hnl : ∀ w, 0 ≤ nxT tw sh p (100 * m + s) w → 100 * lo ≤ nxT tw sh p (100 * m + s) w := fun w z => by have := nxT_ok hp (show 0 ≤ 100 * m + s by omega) (show 100 * m + s < 12000 by omega) z; omega
  simp only [wp_X9_label]
  refine p_isMinute (by omega) (fun _ => ⟨fun z => absurd z (by decide), fun _ => ?_⟩) (fun z => by omega)
  refine p_isSquare (by omega) (fun _ => ⟨fun _ => ?_, fun z => absurd z (by decide)⟩) (fun z => by omega)
  rw [zi_eq (by omega)]
  refine ⟨fun hne => ?_, fun he => ?_⟩
  case refine_2 =>
    simp (disch := omega) only [forall_eq, zi_lit, zi_mul, zi_add, hk, zi_in, zA_upd]
    refine ⟨by omega, ?_⟩
    rw [labV, if_pos (by omega), hkd] at h
    exact h
  rw [labV, if_neg (by omega)] at h
  simp only [hkd, hkm] at h
  have h145 : ∀ v : Int, v = (if m < hi ∧ La (100 * m + s + 100) < 268435456 then (if La (100 * m + s + 100) + 128 * costF eb hot cool dw ex (100 * m + s) < (if lb4 (nxT tw sh p) hi La (100 * m + s) 4 < 268435456 then lb4 (nxT tw sh p) hi La (100 * m + s) 4 + 128 * csm (costF eb hot cool dw ex) m s p.toNat else lb4 (nxT tw sh p) hi La (100 * m + s) 4) then La (100 * m + s + 100) + 128 * costF eb hot cool dw ex (100 * m + s) else (if lb4 (nxT tw sh p) hi La (100 * m + s) 4 < 268435456 then lb4 (nxT tw sh p) hi La (100 * m + s) 4 + 128 * csm (costF eb hot cool dw ex) m s p.toNat else lb4 (nxT tw sh p) hi La (100 * m + s) 4)) else (if lb4 (nxT tw sh p) hi La (100 * m + s) 4 < 268435456 then lb4 (nxT tw sh p) hi La (100 * m + s) 4 + 128 * csm (costF eb hot cool dw ex) m s p.toNat else lb4 (nxT tw sh p) hi La (100 * m + s) 4)) → wp_X9_label_b145 eb (zi day) (zi to) (zi hot) (zi cool) (zi aims) (zA nt) (zi sl) sw dw (zA ex) (zi p) (zi bears) (zi mends) post (zA La) (zi m) (zi s) (zi v) := by
    intro v hv
    simp (disch := omega) only [wp_X9_label_b145, forall_eq, zi_lit, zi_mul, zi_add, hk, zi_in, zA_upd]
    refine ⟨by omega, ?_⟩
    rw [hv]
    exact h
  clear h
  have hcs : m + p ≤ hi → 0 ≤ csm (costF eb hot cool dw ex) m s p.toNat ∧ csm (costF eb hot cool dw ex) m s p.toNat ≤ 3000 := by
    intro q
    have := csm_rng hcB hm.1 hs p.toNat (by omega)
    omega
  have h4far : ¬ m + p ≤ hi → lb4 (nxT tw sh p) hi La (100 * m + s) 4 = 268435456 := by
    intro q
    have hz : ∀ w : Int, w ≠ 4 → lbh (nxT tw sh p) hi La (100 * m + s) w = 268435456 := by
      intro w hw
      rw [lbh, if_neg]
      intro z
      have a := nxT_ok hp (show 0 ≤ 100 * m + s by omega) (show 100 * m + s < 12000 by omega) z.1
      rw [plen, if_neg hw] at a
      omega
    have hz0 := hz 0 (by decide)
    have hz1 := hz 1 (by decide)
    have hz2 := hz 2 (by decide)
    have hz3 := hz 3 (by decide)
    simp [lb4, hz0, hz1, hz2, hz3]
  have h100 : ∀ b1 : Int, b1 = (if lb4 (nxT tw sh p) hi La (100 * m + s) 4 < 268435456 then lb4 (nxT tw sh p) hi La (100 * m + s) 4 + 128 * csm (costF eb hot cool dw ex) m s p.toNat else lb4 (nxT tw sh p) hi La (100 * m + s) 4) → 0 ≤ b1 ∧ b1 ≤ 300000000 → wp_X9_label_b100 eb (zi day) (zi to) (zi hot) (zi cool) (zi aims) (zA nt) (zi sl) sw dw (zA ex) (zi p) (zi bears) (zi mends) post (zA La) (zi m) (zi s) (zi hi) (zi b1) := by
    intro b1 hb1 hbr
    rw [← hb1] at h145
    simp only [wp_X9_label_b100, zi_lit, zi_add]
    rw [zi_le (by omega)]
    refine ⟨fun z => h145 b1 (by rw [if_neg (by omega)]), fun z => ?_⟩
    have e1 : 100 * (m + 1) + s = 100 * m + s + 100 := by omega
    have hLn := hL (100 * m + s + 100) (by omega) (by omega)
    refine p_labelled (by omega) (by omega) ?_
    rw [if_pos (by omega), e1, zi_le (by omega)]
    refine ⟨fun y => h145 b1 (by rw [if_neg (by omega)]), fun y => ?_⟩
    refine p_labelled (by omega) (by omega) ?_
    rw [if_pos (by omega), e1]
    refine p_after hh hc ha2 hex2 hbz hme (by omega) (by omega) hs ?_
    have hck := hcB (100 * m + s) (by omega) (by omega)
    simp (disch := omega) only [forall_eq, zi_mul, zi_add, aftF, if_neg ha, Int.zero_add, zi_lt]
    have hif := h145 (if La (100 * m + s + 100) + 128 * costF eb hot cool dw ex (100 * m + s) < b1 then La (100 * m + s + 100) + 128 * costF eb hot cool dw ex (100 * m + s) else b1) (by rw [if_pos (show m < hi ∧ La (100 * m + s + 100) < 268435456 by omega)])
    by_cases q : La (100 * m + s + 100) + 128 * costF eb hot cool dw ex (100 * m + s) < b1
    · rw [if_pos q] at hif ⊢; exact hif
    · rw [if_neg q] at hif ⊢; exact hif
  have r4 := lb4_rng (hi := hi) hL hnl 4
  refine lp_for0 (fun i => (zA La, zi m, zi s, zi hi, zi (lb4 (nxT tw sh p) hi La (100 * m + s) i), zi i)) 4 rfl (fun kb => ?_) (fun i hi4 kb hkb => ?_)
  · simp (disch := omega) only [wp_X9_label_L43, zi_lit, zi_le]
    refine ⟨fun _ => ⟨fun z => h100 _ (by rw [if_neg (by omega)]) (by omega), fun z => ?_⟩, fun z => absurd (by decide) z⟩
    have hq : m + p ≤ hi := Classical.byContradiction (fun q => by have := h4far q; omega)
    have hc2 := hcs hq
    refine p_spent A ha (by omega) (by omega) hs ?_
    simp only [forall_eq, zi_mul, zi_add]
    exact h100 _ (by rw [if_pos (by omega)]) (by omega)
  · have ri := lb4_rng (hi := hi) hL hnl i
    have bi : 0 ≤ lbh (nxT tw sh p) hi La (100 * m + s) i ∧ lbh (nxT tw sh p) hi La (100 * m + s) i ≤ 268435456 := by
      rw [lbh]
      split
      · next h => have := hL _ (hnl _ h.1) (by omega); omega
      · omega
    simp (disch := omega) only [wp_X9_label_L43, zi_lit, zi_le]
    refine ⟨fun z => by omega, fun _ => ?_⟩
    refine p_labelBehind A (by omega) hs (by omega) (by omega) ?_
    simp (disch := omega) only [forall_eq, zi_add, zi_lt]
    have e : (if lbh (nxT tw sh p) hi La (100 * m + s) i < lb4 (nxT tw sh p) hi La (100 * m + s) i then zi (lbh (nxT tw sh p) hi La (100 * m + s) i) else zi (lb4 (nxT tw sh p) hi La (100 * m + s) i)) = zi (lb4 (nxT tw sh p) hi La (100 * m + s) (i + 1)) := by
      simp only [lb4]; split <;> rfl
    rw [e]
    exact hkb
end LA
