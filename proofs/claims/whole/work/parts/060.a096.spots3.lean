/-! spots: the reference -/
section SR
variable {tw sp : Int → Int} {vf : Int → Int → Int → Int32} {op arg : Nat → Int32}
theorem p_treesR {tv : Int → Int} {z S K H : Int} (hz : spO tw sp z) (hS : 0 ≤ S ∧ S < p2 z) (hH : 0 ≤ H ∧ H ≤ 99) (hK : K = if H ≤ 0 then 0 else 2) {sd : Int32} {post : Int32 → (Nat → Int32) → Prop} (h : post (-1) (zA (trG tv sp S K H z.toNat))) : wp_X12_trees (zi z) (zA sp) sd (zA tv) (zi S) (zi H) post := by
  have zr := hz.1
  have pr := p2_rng zr
  simp only [wp_X12_trees]
  refine lp_for0 (fun i => (sd, zA (trG tv sp S K H i), zi S, zi H, zi i)) z.toNat rfl (fun kb => ?_) (fun i hi kb hkb => ?_)
  · simp only [wp_X12_trees_L2]
    rw [zi_le (by omega)]
    exact ⟨fun _ => h, fun y => by omega⟩
  · have hni : ((i + 1 : Nat) : Int) = (i : Int) + 1 := by omega
    have si := (hz.2 i (by omega) (by omega)).1
    have b01' := btS_01 S i
    rw [hni] at hkb
    simp only [wp_X12_trees_L2]
    rw [bit_zi (by omega) (by omega), zi_le (by omega), show (1 : Int32) = zi 1 from rfl, zi_eq (by omega)]
    refine ⟨fun y => by omega, fun _ => ⟨fun y => ?_, fun y => ⟨vp_zi (by omega) (by decide), ?_⟩⟩⟩
    · simp only [forall_eq, zi_add]
      rw [trG, if_neg y] at hkb
      exact hkb
    · rw [trG, if_pos y] at hkb
      have key : wp_X12_trees_b38 (fun t_shadeDay t_towns => post (-1) t_towns) kb (zi z) (zA sp) post sd (zA (trG tv sp S K H i)) (zi S) (zi H) (zi i) (zi K) (zA sp (Int32.toNatClampNeg (zi i))) := by
        simp only [wp_X12_trees_b38]
        rw [zA_get (by omega)]
        simp (disch := omega) only [forall_eq, zi_lit, zi_add, zi_in, zA_upd]
        exact ⟨by omega, by omega, by omega, hkb⟩
      rw [show (0 : Int32) = zi 0 from rfl, zi_le (by omega)]
      refine ⟨fun x => ?_, fun x => ?_⟩
      · rw [show zi K = zi 0 by rw [hK, if_pos x]] at key; exact key
      · rw [show zi K = 2 by rw [hK, if_neg x]; rfl] at key; exact key
theorem p_spotsR (hT : twR tw) (hW : wkOk tw) (hC : clR tw op arg vf) (hb' : brR tw) {z : Int} (hz : spO tw sp z) {sd : Int} {sy sn shA c0 : Int → Int} (hD : dayI tw vf sd sy sn shA) (hc0 : i32 c0) {wk d m fr to h many w : Int} (a1 : ir wk) (a2 : ir d) (a3 : ir m) (a4 : ir fr) (a5 : ir to) (a6 : ir h) (a7 : ir many) (a8 : ir w) {th : Int32} {facts pile t1 t2 : Nat → Int32} {post : Int32 → Int32 → Int32 → (Nat → Int32) → (Nat → Int32) → (Nat → Int32) → (Nat → Int32) → (Nat → Int32) → (Nat → Int32) → (Nat → Int32) → (Nat → Int32) → (Nat → Int32) → Prop}
    (h1 : ∀ v, spotsO tw sp vf z wk d m fr to h many w = some v → ∀ (sd' : Int) (sy' sn' shA' c' : Int → Int) (f p lc le : Nat → Int32), dayI tw vf sd' sy' sn' shA' → i32 c' → post (zi v) 0 (zi sd') (zA tw) (zA sy') (zA sn') (zA shA') f p (zA c') lc le)
    (h0 : spotsO tw sp vf z wk d m fr to h many w = none → ∀ (sd' : Int) (sy' sn' shA' c' : Int → Int) (f p lc le : Nat → Int32), dayI tw vf sd' sy' sn' shA' → i32 c' → post 0 1 (zi sd') (zA tw) (zA sy') (zA sn') (zA shA') f p (zA c') lc le) :
    wp_X12_spots (zi z) (zA sp) op arg th (zi sd) (zA tw) (zA sy) (zA sn) (zA shA) facts pile (zA c0) t1 t2 (zi wk) (zi d) (zi m) (zi fr) (zi to) (zi h) (zi many) (zi w) post := by
  have b8 := a8
  simp only [ir] at b8
  have no : spotsO tw sp vf z wk d m fr to h many w = none → wp_X12_spots_b50 (zi z) (zA sp) op arg post th (zi sd) (zA tw) (zA sy) (zA sn) (zA shA) facts pile (zA c0) t1 t2 (zi wk) (zi d) (zi m) (zi fr) (zi to) (zi h) (zi many) (zi w) := by
    intro z
    simp only [wp_X12_spots_b50, wp_X12_spots_b51, wp_X12_spots_b75, wp_X12_spots_b91]
    exact ⟨fun _ => ⟨fun _ => ⟨fun y => absurd y (by decide), fun _ => h0 z _ _ _ _ _ _ _ _ _ hD hc0⟩, fun y => absurd (by decide) y⟩, fun y => absurd trivial y⟩
  simp only [wp_X12_spots]
  refine p_isTrip hT.1 a1 a2 a3 a4 a5 (fun t => ⟨fun z => absurd z (by decide), fun _ => ?_⟩) (fun t => ⟨fun _ => no (by rw [spotsO, if_neg (fun y => t y.1)]), fun z => absurd rfl z⟩)
  rw [show (1 : Int32) = zi 1 from rfl, show (99 : Int32) = zi 99 from rfl, show (8 : Int32) = zi 8 from rfl, show (0 : Int32) = zi 0 from rfl]
  refine p_within a6 (by omega) (by omega) (fun q1 => ⟨fun z => absurd z (by decide), fun _ => ?_⟩) (fun q1 => ⟨fun _ => no (by rw [spotsO, if_neg (fun y => q1 y.2.1)]), fun z => absurd rfl z⟩)
  refine p_within a7 (by omega) (by omega) (fun q2 => ⟨fun z => absurd z (by decide), fun _ => ?_⟩) (fun q2 => ⟨fun _ => no (by rw [spotsO, if_neg (fun y => q2 y.2.2.1)]), fun z => absurd rfl z⟩)
  refine p_within a8 (by omega) (by omega) (fun q3 => ⟨fun z => absurd z (by decide), fun _ => ?_⟩) (fun q3 => ⟨fun _ => no (by rw [spotsO, if_neg (fun y => q3 y.2.2.2.1)]), fun z => absurd rfl z⟩)
  simp only [wp_X12_spots_b51]
  refine ⟨fun z => absurd z (by decide), fun _ => ?_⟩
  refine p_sunOf hT hW hC hD hc0 t (fun sy' sn' shA' c lc le f p hD' hc hcs i1 i2 hB e => ?_)
  have lr := i1 (100 * m + fr)
  rw [e] at lr
  simp only [wp_X12_spots_b75, wp_X12_spots_b91]
  rw [show (1000000 : Int32) = zi 1000000 from rfl, zi_le (by omega)]
  refine ⟨fun hl => ⟨fun y => absurd y (by decide), fun _ => h0 (by rw [spotsO, if_neg (fun y => by have := y.2.2.2.2; omega)]) _ _ _ _ _ _ _ _ _ hD' hc⟩, fun hl => ⟨fun _ => ?_, fun y => absurd (by decide) y⟩⟩
  have t' := t
  obtain ⟨t1', t2', t3', t4', t5'⟩ := t'
  have wo := hW wk t1'.1.1 t1'.1.2 t1'.2
  have zr := hz.1
  have pr := p2_rng zr
  obtain ⟨e0, lok⟩ := lsS_ok (vf := vf) (d := d) (to := to) (k0 := 100 * m + fr) hT hb' wo.1 hz q1 (by omega) (by omega)
  have hO : ∀ b, optS (lsS tw sp vf d (tw (383 + 7 * wk)) to (100 * m + fr) h z) (fun S => cnt8 S 8) many (p2 z) b → spotsO tw sp vf z wk d m fr to h many w = some (if w = 0 then b else lsS tw sp vf d (tw (383 + 7 * wk)) to (100 * m + fr) h z b) := by
    intro b ob
    have eb := spC_eq ob
    rw [spotsO, if_pos ⟨t, q1, q2, q3, by omega⟩, eb]
  have hV : ∀ S, lsC (trG tw sp S 2 h z.toNat) vf d (tw (383 + 7 * wk)) to 119 (100 * m + fr) = lsS tw sp vf d (tw (383 + 7 * wk)) to (100 * m + fr) h z S := fun S => rfl
  generalize lsS tw sp vf d (tw (383 + 7 * wk)) to (100 * m + fr) h z = V at *
  have Vr : ∀ b, 0 ≤ b → b < p2 z → 0 ≤ V b ∧ V b < 1000000 := fun b a c => by have := lok b a c; omega
  have b8' : ∀ S, 0 ≤ cnt8 S 8 ∧ cnt8 S 8 ≤ 8 := fun S => cnt8_rng S 8
  rw [← e0]
  refine lp_inv (fun i st => ∃ (b : Int) (sd' : Int) (sy' sn' shA' c' : Int → Int) (f p lc le : Nat → Int32), (dayI tw vf sd' sy' sn' shA' ∧ i32 c') ∧ st = (0, zi sd', zA tw, zA sy', zA sn', zA shA', f, p, zA c', lc, le, zi wk, zi d, zi m, zi fr, zi to, zi h, zi many, zi w, zi (V b), zi b, zi (1 + i)) ∧ (0 ≤ b ∧ b < p2 z ∧ b < 1 + i) ∧ cnt8 b 8 ≤ many ∧ ∀ T, 0 ≤ T → T < 1 + (i : Int) → cnt8 T 8 ≤ many → cnd V (fun S => cnt8 S 8) b T) (p2 z - 1).toNat ?_ ?_ 0 (Nat.zero_le _) ⟨0, d, sy', sn', shA', c, f, p, zA lc, zA le, ⟨hD', hc⟩, rfl, by omega, by rw [show cnt8 0 8 = 0 by decide]; omega, fun T t0 t1 _ => by rw [show T = 0 by omega]; exact Or.inr ⟨rfl, Or.inr ⟨rfl, Int.le_refl _⟩⟩⟩
  · rintro st ⟨b, sd', sy', sn', shA', c', f, p, lc, le, ⟨k1, k2⟩, rfl, hb0, hbm, hcn⟩ kb
    simp only [wp_X12_spots_L109]
    rw [p2_shl zr, zi_le (by omega), show (0 : Int32) = zi 0 from rfl, zi_eq (by omega)]
    have o : optS V (fun S => cnt8 S 8) many (p2 z) b := ⟨⟨hb0.1, hb0.2.1⟩, hbm, fun T t0 t1 t2 => hcn T t0 (by omega) t2⟩
    refine ⟨fun _ => ⟨fun w0 => ?_, fun w0 => ?_⟩, fun y => absurd (by omega) y⟩
    · exact h1 _ (by rw [hO b o, if_neg w0]) sd' sy' sn' shA' c' f p lc le k1 k2
    · exact h1 _ (by rw [hO b o, if_pos w0]) sd' sy' sn' shA' c' f p lc le k1 k2
  · rintro i hi st ⟨b, sd', sy', sn', shA', c', f, p, lc, le, ⟨k1, k2⟩, rfl, hb0, hbm, hcn⟩ kb hkb
    have hni : 1 + ((i + 1 : Nat) : Int) = 1 + (i : Int) + 1 := by omega
    have vb := Vr b hb0.1 hb0.2.1
    have vi := Vr (1 + i) (by omega) (by omega)
    have ci := b8' (1 + i)
    have cb := b8' b
    simp only [wp_X12_spots_L109]
    rw [p2_shl zr, zi_le (by omega)]
    refine ⟨fun y => by omega, fun _ => ?_⟩
    refine p_bitsR (by omega) ?_
    rw [zi_lt (by omega)]
    refine ⟨fun y => ?_, fun y => ?_⟩
    · simp only [forall_eq, zi_lit, zi_add]
      refine hkb _ ⟨b, sd', sy', sn', shA', c', f, p, lc, le, ⟨k1, k2⟩, by rw [hni]; rfl, by omega, hbm, fun T t0 t1 t2 => ?_⟩
      by_cases te : T = 1 + i
      · rw [te] at t2; omega
      · exact hcn T t0 (by omega) t2
    have hS : 0 ≤ 1 + (i : Int) ∧ 1 + (i : Int) < p2 z := by omega
    have ag := trG_ag (S := 1 + (i : Int)) (K := 2) (H := h) hz z.toNat (by omega)
    have same := trG_same (S := 1 + (i : Int)) (K := 2) (H := h) hz (by omega) (n := z.toNat) (by omega)
    refine p_treesR (K := 2) hz hS (by omega) (by rw [if_neg (by omega)]) ?_
    have tv : tripP (trG tw sp (1 + i) 2 h z.toNat) wk d m fr to := tripP_ag ag (fun x u => x ((same fr t4'.1.1 t4'.1.2).mp u)) (fun x u => x ((same to t5'.1.1 t5'.1.2).mp u)) t
    have ep : trG tw sp (1 + i) 2 h z.toNat (383 + 7 * wk) = tw (383 + 7 * wk) := ag _ (by omega)
    rw [show (-1 : Int32) = zi (-1) from rfl]
    refine p_sunOf (sd := -1) (trG_R hT hz (by omega) (by omega) _ (by omega)) (wkOk_ag hW ag) (clR_ag hC ag) ⟨by omega, k1.2.1, k1.2.2.1, k1.2.2.2.1, fun x => absurd x (by decide)⟩ k2 tv (fun sy2 sn2 shA2 c2 lc2 le2 f2 p2' hD2 hc2 hcs2 u1' u2 hB2 e2 => ?_)
    rw [ep, hV, show (0 : Int32) = zi 0 from rfl]
    refine p_treesR (K := 0) (H := 0) hz hS (by omega) rfl ?_
    rw [trG_back hz hb' (by omega), zi_lt (by omega), zi_eq (by omega)]
    simp only [forall_eq, zi_lit, zi_add]
    have nd : dayI tw vf (-1) sy2 sn2 shA2 := ⟨by omega, hD2.2.1, hD2.2.2.1, hD2.2.2.2.1, fun x => absurd x (by decide)⟩
    have keep : (V b < V (1 + i) ∨ (V b = V (1 + i) ∧ cnt8 b 8 ≤ cnt8 (1 + (i : Int)) 8)) → kb (0, -1, zA tw, zA sy2, zA sn2, zA shA2, f2, p2', zA c2, zA lc2, zA le2, zi wk, zi d, zi m, zi fr, zi to, zi h, zi many, zi w, zi (V b), zi b, zi (1 + (i : Int) + 1)) := by
      intro x
      refine hkb _ ⟨b, -1, sy2, sn2, shA2, c2, f2, p2', zA lc2, zA le2, ⟨nd, hc2⟩, by rw [hni]; rfl, by omega, hbm, fun T t0 t1 t2 => ?_⟩
      by_cases te : T = 1 + i
      · rw [te]
        show V b < V (1 + i) ∨ (V b = V (1 + i) ∧ (cnt8 b 8 < cnt8 (1 + (i : Int)) 8 ∨ (cnt8 b 8 = cnt8 (1 + (i : Int)) 8 ∧ b ≤ 1 + i)))
        omega
      · exact hcn T t0 (by omega) t2
    have take : (V (1 + i) < V b ∨ (V b = V (1 + i) ∧ cnt8 (1 + (i : Int)) 8 < cnt8 b 8)) → kb (0, -1, zA tw, zA sy2, zA sn2, zA shA2, f2, p2', zA c2, zA lc2, zA le2, zi wk, zi d, zi m, zi fr, zi to, zi h, zi many, zi w, zi (V (1 + i)), zi (1 + i), zi (1 + (i : Int) + 1)) := by
      intro x
      refine hkb _ ⟨1 + i, -1, sy2, sn2, shA2, c2, f2, p2', zA lc2, zA le2, ⟨nd, hc2⟩, by rw [hni]; rfl, by omega, by omega, fun T t0 t1 t2 => ?_⟩
      show V (1 + i) < V T ∨ (V (1 + i) = V T ∧ (cnt8 (1 + (i : Int)) 8 < cnt8 T 8 ∨ (cnt8 (1 + (i : Int)) 8 = cnt8 T 8 ∧ 1 + (i : Int) ≤ T)))
      by_cases te : T = 1 + i
      · rw [te]; omega
      · have c' : V b < V T ∨ (V b = V T ∧ (cnt8 b 8 < cnt8 T 8 ∨ (cnt8 b 8 = cnt8 T 8 ∧ b ≤ T))) := hcn T t0 (by omega) t2
        omega
    refine ⟨fun x => take (Or.inl x), fun x => ⟨fun u => keep (Or.inl (by omega)), fun u => ?_⟩⟩
    refine p_bitsR (by omega) ?_
    refine p_bitsR (by omega) ?_
    rw [zi_le (by omega)]
    exact ⟨fun v => keep (Or.inr ⟨by omega, v⟩), fun v => take (Or.inr ⟨by omega, by omega⟩)⟩
end SR
