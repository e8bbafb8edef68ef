/-! meet: the reference -/
section MF
variable {tw : Int → Int} {vf : Int → Int → Int → Int32} {op arg : Nat → Int32}
theorem p_meetR (hT : twR tw) (hW : wkOk tw) (hC : clR tw op arg vf) {sd : Int} {sy sn shA c0 : Int → Int} (hD : dayI tw vf sd sy sn shA) (hc0 : i32 c0) {wk fr ot st d m w : Int} (a1 : ir wk) (a2 : ir fr) (a3 : ir ot) (a4 : ir st) (a5 : ir d) (a6 : ir m) (a7 : ir w) {th : Int32} {facts pile t1 t2 : Nat → Int32} {post : Int32 → Int32 → Int32 → (Nat → Int32) → (Nat → Int32) → (Nat → Int32) → (Nat → Int32) → (Nat → Int32) → (Nat → Int32) → (Nat → Int32) → (Nat → Int32) → Prop}
    (h1 : ∀ v, meetO tw vf wk fr ot st d m w = some v → ∀ (sd' : Int) (sy' sn' shA' c' : Int → Int) (f p r r1 : Nat → Int32), dayI tw vf sd' sy' sn' shA' → i32 c' → post (zi v) 0 (zi sd') (zA sy') (zA sn') (zA shA') f p (zA c') r r1)
    (h0 : meetO tw vf wk fr ot st d m w = none → ∀ (sd' : Int) (sy' sn' shA' c' : Int → Int) (f p r r1 : Nat → Int32), dayI tw vf sd' sy' sn' shA' → i32 c' → post 0 1 (zi sd') (zA sy') (zA sn') (zA shA') f p (zA c') r r1) :
    wp_X12_meet (zA tw) op arg th (zi sd) (zA sy) (zA sn) (zA shA) facts pile (zA c0) t1 t2 (zi wk) (zi fr) (zi ot) (zi st) (zi d) (zi m) (zi w) post := by
  have b7 := a7
  simp only [ir] at b7
  simp only [wp_X12_meet]
  refine p_isTrip hT.1 a1 a5 a6 a2 a2 (fun t => ⟨fun z => absurd z (by decide), fun _ => ?_⟩) (fun t => ⟨fun _ => h0 (by rw [meetO, if_neg (fun y => t y.1.1)]) _ _ _ _ _ _ _ _ _ hD hc0, fun z => absurd rfl z⟩)
  refine p_isTrip hT.1 a3 a5 a6 a4 a4 (fun u => ⟨fun z => absurd z (by decide), fun _ => ?_⟩) (fun u => ⟨fun _ => h0 (by rw [meetO, if_neg (fun y => u y.1.2.1)]) _ _ _ _ _ _ _ _ _ hD hc0, fun z => absurd rfl z⟩)
  rw [show (0 : Int32) = zi 0 from rfl, show (2 : Int32) = zi 2 from rfl]
  refine p_within a7 (by omega) (by omega) (fun q3 => ⟨fun _ => ?_, fun z => absurd z (by decide)⟩) (fun q3 => ⟨fun z => absurd rfl z, fun _ => h0 (by rw [meetO, if_neg (fun y => q3 y.1.2.2)]) _ _ _ _ _ _ _ _ _ hD hc0⟩)
  have mp : meetP tw wk fr ot st d m w := ⟨t, u, q3.1, q3.2⟩
  obtain ⟨t1', t2', t3', t4', -⟩ := t
  obtain ⟨u1', -, -, u4', -⟩ := u
  have wo := hW wk t1'.1.1 t1'.1.2 t1'.2
  have wo2 := hW ot u1'.1.1 u1'.1.2 u1'.2
  refine p_laysDay hT hC t2' hD.1 hD.2.2.1 hD.2.2.2.1 hD.2.2.2.2 hD.2.1 (fun sy' sn' shA' f p i1 i2 dr => ?_)
  obtain ⟨syf, rfl, i3⟩ := zA_ex sy'
  have hD' : dayI tw vf d syf sn' shA' := ⟨by omega, i3, i1, i2, fun _ => dr⟩
  refine p_costsSun i1 hc0 (fun c hc hcs => ?_)
  have hcs2 : ∀ k, 0 ≤ k → k < 12000 → c k = snC tw vf d k ∧ shA' k = shC tw vf d k := fun k a b => ⟨by rw [hcs k a b]; exact (dayR_C dr a b).1, (dayR_C dr a b).2⟩
  have hcB : cB c := fun k a b => by rw [(hcs2 k a b).1]; exact snC_cB tw vf d k a b
  refine p_walkerOf (i := 0) t1'.1 (by omega) ?_
  rw [show 383 + 7 * wk + 0 = 383 + 7 * wk by omega]
  refine p_findReach (to := -1) wo.1 (by omega) hT.1 i2 hcB t3' t4'.1 (fun R hR hRc => ?_)
  have r1 : ∀ k, 0 ≤ k → k < 12000 → reC tw vf d (tw (383 + 7 * wk)) (-1) (100 * m + fr) k = R k ∧ (R k < 1000000 → 0 ≤ R k ∧ R k ≤ 119000) := fun k a b => reC_rng wo.1 (by omega) (by omega) (Rch_agr (Agr_T wo.1 (fun k a b => (hcs2 k a b).2) (fun k a b => (hcs2 k a b).1)) (Gok_T wo.1 hcB) (by omega) (by omega) (hRc k a b))
  obtain ⟨R0, rfl, hR0⟩ := zA_ex t2
  refine lp_for0 (fun n => (1, zi d, zA syf, zA sn', zA shA', f, p, zA c, zA R, zA (fun k => if 0 ≤ k ∧ k < (n : Int) then R k else R0 k), zi ot, zi st, zi m, zi w, zi n)) 12000 (by congr 10) (fun kb => ?_) (fun i hi kb hkb => ?_)
  case refine_2 =>
    have hni : ((i + 1 : Nat) : Int) = (i : Int) + 1 := by omega
    simp (disch := omega) only [wp_X12_meet_L74, forall_eq, zi_lit, zi_add, zi_le, zi_in, zA_get, zA_upd]
    refine ⟨fun z => by omega, fun _ => ⟨by omega, by omega, ?_⟩⟩
    rw [hni] at hkb
    have e : (fun k : Int => if 0 ≤ k ∧ k < (i : Int) + 1 then R k else R0 k) = upI (fun k : Int => if 0 ≤ k ∧ k < (i : Int) then R k else R0 k) i (R i) := by
      funext k
      by_cases q : k = i
      · rw [q, upI_s, if_pos (by omega)]
      · rw [upI_n q]
        by_cases q2 : 0 ≤ k ∧ k < (i : Int)
        · rw [if_pos (by omega), if_pos q2]
        · rw [if_neg (by omega), if_neg q2]
    rw [e] at hkb
    exact hkb
  have i5 : i32 (fun k => if 0 ≤ k ∧ k < ((12000 : Nat) : Int) then R k else R0 k) := fun k => by
    dsimp only
    split
    · exact hR k
    · exact hR0 k
  simp (disch := omega) only [wp_X12_meet_L74, zi_lit, zi_le]
  refine ⟨fun _ => ?_, fun z => absurd (by decide) z⟩
  refine p_walkerOf (i := 0) u1'.1 (by omega) ?_
  rw [show 383 + 7 * ot + 0 = 383 + 7 * ot by omega]
  refine p_findReach (to := -1) wo2.1 (by omega) hT.1 i2 hcB t3' u4'.1 (fun R2 hR2 hRc2 => ?_)
  have r2 : ∀ k, 0 ≤ k → k < 12000 → reC tw vf d (tw (383 + 7 * ot)) (-1) (100 * m + st) k = R2 k ∧ (R2 k < 1000000 → 0 ≤ R2 k ∧ R2 k ≤ 119000) := fun k a b => reC_rng wo2.1 (by omega) (by omega) (Rch_agr (Agr_T wo2.1 (fun k a b => (hcs2 k a b).2) (fun k a b => (hcs2 k a b).1)) (Gok_T wo2.1 hcB) (by omega) (by omega) (hRc2 k a b))
  have rg : ∀ n : Nat, 100 * m + (n : Int) ≤ 12000 → ((meF R2 R (100 * m) n).1 = 1000000 ∧ (meF R2 R (100 * m) n).2 = -1) ∨ (0 ≤ (meF R2 R (100 * m) n).1 ∧ (meF R2 R (100 * m) n).1 ≤ 238000 ∧ 0 ≤ (meF R2 R (100 * m) n).2 ∧ (meF R2 R (100 * m) n).2 < 100 * m + n) := fun n hn => meF_rng (by omega) n (fun k k0 k1 => ⟨(r2 k k0 (by omega)).2, (r1 k k0 (by omega)).2⟩)
  simp only [forall_eq, zi_lit, zi_mul, zi_neg]
  refine lp_for0 (fun n => (zi 1, zi d, zA syf, zA sn', zA shA', f, p, zA c, zA R2, zA (fun k => if 0 ≤ k ∧ k < ((12000 : Nat) : Int) then R k else R0 k), zi w, zi (meF R2 R (100 * m) n).2, zi (meF R2 R (100 * m) n).1, zi (100 * m + n))) (12000 - 100 * m).toNat (by simp only [meF]; rw [show 100 * m + ((0 : Nat) : Int) = 100 * m by omega]) (fun kb => ?_) (fun i hi kb hkb => ?_)
  · have r := rg (12000 - 100 * m).toNat (by omega)
    have eB : meetB tw vf wk fr ot st d m = meF R2 R (100 * m) (12000 - 100 * m).toNat := meF_cong (by omega) _ (fun k k0 k1 => ⟨(r2 k k0 (by omega)).1, (r1 k k0 (by omega)).1⟩)
    rw [← eB] at r ⊢
    simp (disch := omega) only [wp_X12_meet_L132, wp_X12_meet_b224, zi_lit, zi_le, zi_lt, zi_eq]
    refine ⟨fun _ => ⟨fun z => ⟨fun y => absurd y (by decide), fun _ => h0 (by rw [meetO, if_neg (fun y => y.2 (by omega))]) _ _ _ _ _ _ _ _ _ hD' hc⟩, fun z => ⟨fun _ => ?_, fun y => absurd (by decide) y⟩⟩, fun u => absurd (by omega) u⟩
    refine ⟨fun w0 => ⟨fun w1 => ?_, fun w1 => ?_⟩, fun w0 => ?_⟩
    · rw [zi_rem (by omega)]
      exact h1 _ (by rw [meetO, if_pos ⟨mp, by omega⟩, if_neg w0, if_neg w1]) _ _ _ _ _ _ _ _ _ hD' hc
    · rw [zi_div (by omega)]
      exact h1 _ (by rw [meetO, if_pos ⟨mp, by omega⟩, if_neg w0, if_pos w1]) _ _ _ _ _ _ _ _ _ hD' hc
    · exact h1 _ (by rw [meetO, if_pos ⟨mp, by omega⟩, if_pos w0]) _ _ _ _ _ _ _ _ _ hD' hc
  · have hni : ((i + 1 : Nat) : Int) = (i : Int) + 1 := by omega
    have r := rg i (by omega)
    have x1 := r1 (100 * m + i) (by omega) (by omega)
    have x2 := r2 (100 * m + i) (by omega) (by omega)
    have y1 := hR (100 * m + i)
    have y2 := hR2 (100 * m + i)
    have eR : (if 0 ≤ 100 * m + (i : Int) ∧ 100 * m + (i : Int) < ((12000 : Nat) : Int) then R (100 * m + i) else R0 (100 * m + i)) = R (100 * m + i) := if_pos (by omega)
    rw [hni, ← Int.add_assoc] at hkb
    have no : ¬ (R2 (100 * m + i) < 1000000 ∧ R (100 * m + i) < 1000000 ∧ R2 (100 * m + i) + R (100 * m + i) < (meF R2 R (100 * m) i).1) → kb (zi 1, zi d, zA syf, zA sn', zA shA', f, p, zA c, zA R2, zA (fun k => if 0 ≤ k ∧ k < ((12000 : Nat) : Int) then R k else R0 k), zi w, zi (meF R2 R (100 * m) i).2, zi (meF R2 R (100 * m) i).1, zi (100 * m + i + 1)) := by
      intro z
      rw [meF, if_neg z] at hkb
      exact hkb
    simp (disch := omega) only [wp_X12_meet_L132, forall_eq, zi_lit, zi_add, zi_le, zi_in, zA_get, eR]
    refine ⟨fun z => by omega, fun _ => ⟨by omega, fun z => no (by omega), fun z => ⟨by omega, ?_⟩⟩⟩
    refine ⟨fun y => no (by omega), fun y => ⟨by omega, by omega, ?_⟩⟩
    simp (disch := omega) only [zi_add, zi_le]
    refine ⟨fun x => no (by omega), fun x => ⟨by omega, by omega, ?_⟩⟩
    rw [meF, if_pos (by omega)] at hkb
    exact hkb
end MF
