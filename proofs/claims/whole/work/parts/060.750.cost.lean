/-! searches by costs: the ways of the town's graph -/
section CO
variable {eb : Bool} {day to hot cool wt aims : Int} {dw : Nat → Int64} {ex nt tw sh : Int → Int} {sl : Int} {ww sw : Nat → Int64} {p bears mends en nw lim k0 : Int}
theorem aftN_cost (ha : aims ≠ 3) {v k : Int} : ∀ n : Nat, aftN eb hot cool aims dw ex bears mends v k n = v + csm (costF eb hot cool dw ex) (k / 100) (k % 100) n
  | 0 => by simp [aftN, csm]
  | n + 1 => by
    simp only [aftN, csm, aftF, if_neg ha]
    rw [aftN_cost ha n, show 100 * (k / 100 + (n : Int)) + k % 100 = k + 100 * n by omega]
    omega
theorem valF_cost (ha : aims ≠ 3) {nx : Int → Int → Int} {k w v : Int} : valF eb hot cool aims dw ex bears mends ww nx p k w v = v + csT (costF eb hot cool dw ex) p k w := by
  simp only [valF, csT, cst, plen]
  split
  · simp only [aftF, if_neg ha]
    rw [show (1 : Int).toNat = 1 from rfl]
    simp only [csm]
    rw [show 100 * (k / 100 + ((0 : Nat) : Int)) + k % 100 = k by omega]
    omega
  · rw [if_neg (fun z => ha z.1), aftN_cost ha]
theorem cB_cost (hh : 0 ≤ hot ∧ hot ≤ 99) (hc : 0 ≤ cool ∧ cool ≤ 99) (hex : ∀ k, 0 ≤ k → k < 12000 → 0 ≤ ex k ∧ ex k ≤ 900) : cB (costF eb hot cool dw ex) := by
  intro k h0 h1
  have := hex k h0 h1
  simp only [costF]
  split <;> split <;> omega
theorem Gv_T (hp : 1 ≤ p ∧ p ≤ 3) : Gv (nxT tw sh p) nw to p := by
  intro k w h0 h1 w0 w1 hn
  have a := nxT_ok hp h0 h1 hn
  refine ⟨a.1, a.2.1, by omega, fun h2 h3 => ?_⟩
  rw [a.2.2.2]
  have : w ≠ 4 := by
    intro z
    subst z
    have hb := bhd_rng (tw := tw) (sh := sh) (w := 4) hp (show 0 ≤ k / 100 ∧ k / 100 < 120 by omega) (show 0 ≤ k % 100 ∧ k % 100 < 100 by omega)
    simp only [nxT] at hn h2
    simp only [if_true] at hb
    omega
  rw [plen, if_neg this]
theorem Vv_cost (ha : aims ≠ 3) (hp : 1 ≤ p ∧ p ≤ 3) {c : Int → Int} (hc : cB c) {val : Int → Int → Int → Int} (hv : ∀ k w v, val k w v = v + csT c p k w) : Vv (nxT tw sh p) val nw lim aims := by
  refine ⟨fun k w u u' h0 h1 w0 w1 hn u0 hu hu' => ?_, fun k w u ms h0 h1 w0 w1 hn u0 _ _ h => ?_⟩
  · have g := Gok_T (tw := tw) (sh := sh) (nw := nw) hp hc k w h0 h1 w0 w1 hn
    rw [hv, hv]; omega
  · have g := Gok_T (tw := tw) (sh := sh) (nw := nw) hp hc k w h0 h1 w0 w1 hn
    rw [hv] at h; omega
theorem qv_pt {nx : Int → Int → Int} {c : Int → Int} {val : Int → Int → Int → Int} (hv : ∀ k w v, val k w v = v + csT c p k w) : ∀ (n : Nat) (k v : Int), qv nx val nw to k0 lim en n k v → ∃ ws, pt nx (csT c p) nw to ws k0 k v
  | 0, k, v, h => by obtain ⟨rfl, rfl⟩ := h; exact ⟨[], rfl, rfl⟩
  | n + 1, k, v, h => by
    obtain ⟨j, u, w, hj, ht, w0, w1, hn, rfl, rfl, hl, he⟩ := h
    obtain ⟨ws, hws⟩ := qv_pt hv n j u hj
    exact ⟨ws ++ [w], (pt_snoc ws w k0 _ _).mpr ⟨j, u, hws, ht, w0, w1, hn, rfl, hv j w u⟩⟩
theorem pt_qv {nx : Int → Int → Int} {c : Int → Int} {val : Int → Int → Int → Int} (G : Gok nx (csT c p) nw) (hv : ∀ k w v, val k w v = v + csT c p k w) (h0 : 0 ≤ k0) (h1 : k0 < 12000) : ∀ (n : Nat) (ws : List Int) (k v : Int), ws.length = n → pt nx (csT c p) nw to ws k0 k v → v ≤ lim → k / 100 ≤ en → qv nx val nw to k0 lim en n k v
  | 0, ws, k, v, hl, h, _, _ => by
    have : ws = [] := List.length_eq_zero_iff.mp hl
    subst this
    exact ⟨h.1.symm, h.2⟩
  | n + 1, ws, k, v, hl, h, hv1, he => by
    have hne : ws ≠ [] := by intro z; subst z; simp at hl
    obtain ⟨a, w, rfl⟩ : ∃ a w, ws = a ++ [w] := ⟨ws.dropLast, ws.getLast hne, (List.dropLast_concat_getLast hne).symm⟩
    obtain ⟨j, c1, p1, p2, p3, p4, p5, p6, p7⟩ := (pt_snoc a w k0 k v).mp h
    have r := pt_rng G a k0 j c1 h0 h1 p1
    have g := G j w r.1 r.2.1 p3 p4 p5
    subst p6
    exact ⟨j, c1, w, pt_qv G hv h0 h1 n a j c1 (by simpa using hl) p1 (by omega) (by omega), p2, p3, p4, p5, rfl, by rw [hv]; exact p7, hv1, he⟩
/-- the cheapest way that costs no more than a limit, or none -/
def Chp (nx cs : Int → Int → Int) (nw to en k0 lim cost arr : Int) : Prop :=
  (arr = -1 ∧ ∀ ws k' c, pt nx cs nw to ws k0 k' c → k' % 100 = to → k' / 100 ≤ en → lim < c) ∨ (0 ≤ arr ∧ arr ≤ en ∧ cost ≤ lim ∧ (∃ ws, pt nx cs nw to ws k0 (100 * arr + to) cost) ∧ ∀ ws k' c, pt nx cs nw to ws k0 k' c → k' % 100 = to → k' / 100 ≤ en → cost < c ∨ (cost = c ∧ arr ≤ k' / 100))
theorem Chp_Bst {nx cs : Int → Int → Int} (G : Gok nx cs nw) (h0 : 0 ≤ k0) (h1 : k0 < 12000) {cost arr C E : Int} (hto : 0 ≤ to ∧ to < 100) (h : Chp nx cs nw to en k0 lim cost arr) (hB : Bst nx cs nw to en k0 C E) : (arr = -1 → C < 1000000 → lim < C) ∧ (arr ≠ -1 → C = cost ∧ E = arr ∧ cost < 1000000 ∧ cost ≤ lim) := by
  rcases h with z | z
  · refine ⟨fun _ hc => ?_, fun q => absurd z.1 q⟩
    obtain ⟨ws, k', a1, a2, a3, a4⟩ := hB.1 hc
    exact z.2 ws k' C a1 a2 (by omega)
  · refine ⟨fun q => by omega, fun _ => ?_⟩
    obtain ⟨a0, a1, a2, ⟨ws, a3⟩, a4⟩ := z
    have r := pt_rng G ws k0 _ _ h0 h1 a3
    have e1 : (100 * arr + to) % 100 = to := by omega
    have e2 : (100 * arr + to) / 100 = arr := by omega
    have b := hB.2.1 ws _ cost a3 e1 (by omega)
    have hC : C < 1000000 := by omega
    obtain ⟨ws', k', b1, b2, b3, b4⟩ := hB.1 hC
    have d := a4 ws' k' C b1 b2 (by omega)
    omega
end CO
