/-! meet: both sides -/
section ME
variable {pl : Pool} {tw : Int → Int} {vf : Int → Int → Int → Int32} {sl : Int} {kd hg : Int → Int} {wks : Nat → Option Nat} {shw : Nat → Int64} {ex nt : Int → Int} {ww sw gw : Nat → Int64} {op arg : Nat → Int32}
/-- the least sum of two rows so far, and where -/
noncomputable def meF (A B : Int → Int) (a : Int) : Nat → Int × Int
  | 0 => (1000000, -1)
  | n + 1 => if A (a + n) < 1000000 ∧ B (a + n) < 1000000 ∧ A (a + n) + B (a + n) < (meF A B a n).1 then (A (a + n) + B (a + n), a + n) else meF A B a n
theorem meF_rng {A B : Int → Int} {a : Int} (ha : 0 ≤ a) : ∀ n : Nat, (∀ k, 0 ≤ k → k < a + n → (A k < 1000000 → 0 ≤ A k ∧ A k ≤ 119000) ∧ (B k < 1000000 → 0 ≤ B k ∧ B k ≤ 119000)) → ((meF A B a n).1 = 1000000 ∧ (meF A B a n).2 = -1) ∨ (0 ≤ (meF A B a n).1 ∧ (meF A B a n).1 ≤ 238000 ∧ 0 ≤ (meF A B a n).2 ∧ (meF A B a n).2 < a + n)
  | 0, _ => Or.inl ⟨rfl, rfl⟩
  | n + 1, h => by
    have ih := meF_rng (A := A) (B := B) ha n (fun k k0 k1 => h k k0 (by omega))
    have hn := h (a + n) (by omega) (by omega)
    rw [meF]
    split
    next z => exact Or.inr ⟨by show 0 ≤ A (a + n) + B (a + n); omega, by show A (a + n) + B (a + n) ≤ _; omega, by show 0 ≤ a + (n : Int); omega, by show a + (n : Int) < _; omega⟩
    next z => omega
theorem meF_cong {A B A' B' : Int → Int} {a : Int} (ha : 0 ≤ a) : ∀ n : Nat, (∀ k, 0 ≤ k → k < a + n → A k = A' k ∧ B k = B' k) → meF A B a n = meF A' B' a n
  | 0, _ => rfl
  | n + 1, h => by
    have hn := h (a + n) (by omega) (by omega)
    rw [meF, meF, meF_cong ha n (fun k k0 k1 => h k k0 (by omega)), hn.1, hn.2]
def meetP (tw : Int → Int) (wk fr ot st d m w : Int) : Prop := tripP tw wk d m fr fr ∧ tripP tw ot d m st st ∧ 0 ≤ w ∧ w ≤ 2
noncomputable def meetB (tw : Int → Int) (vf : Int → Int → Int → Int32) (wk fr ot st d m : Int) : Int × Int := meF (reC tw vf d (tw (383 + 7 * ot)) (-1) (100 * m + st)) (reC tw vf d (tw (383 + 7 * wk)) (-1) (100 * m + fr)) (100 * m) (12000 - 100 * m).toNat
noncomputable def meetO (tw : Int → Int) (vf : Int → Int → Int → Int32) (wk fr ot st d m w : Int) : Option Int := @ite (Option Int) (meetP tw wk fr ot st d m w ∧ (meetB tw vf wk fr ot st d m).2 ≠ -1) (Classical.propDecidable _) (some (if w = 0 then (meetB tw vf wk fr ot st d m).1 else if w = 1 then (meetB tw vf wk fr ot st d m).2 / 100 else (meetB tw vf wk fr ot st d m).2 % 100)) none
theorem p_meetC (C : CS pl tw vf sl kd hg wks shw ex nt ww sw gw) {wk fr ot st d m w : Int} (a1 : ir wk) (a2 : ir fr) (a3 : ir ot) (a4 : ir st) (a5 : ir d) (a6 : ir m) (a7 : ir w) {o1 : Nat} {o2 o3 o4 o5 o6 o7 o8 o9 o10 o11 o12 : Int32} {dw0 lw0 : Nat → Int64} {t1 t2 : Nat → Int32} {post : Option Int32 → Nat → Int32 → Int32 → Int32 → Int32 → Int32 → Int32 → Int32 → Int32 → Int32 → Int32 → Int32 → (Nat → Int64) → (Nat → Int64) → (Nat → Int32) → (Nat → Int32) → Prop}
    (h1 : ∀ v, meetO tw vf wk fr ot st d m w = some v → ∀ (q1 : Nat) (y2 y3 y4 y5 y6 y7 y8 y9 y10 y11 y12 : Int32) (dw lw : Nat → Int64) (s1 s2 : Nat → Int32), post (some (zi v)) q1 y2 y3 y4 y5 y6 y7 y8 y9 y10 y11 y12 dw lw s1 s2)
    (h0 : meetO tw vf wk fr ot st d m w = none → ∀ (q1 : Nat) (y2 y3 y4 y5 y6 y7 y8 y9 y10 y11 y12 : Int32) (dw lw : Nat → Int64) (s1 s2 : Nat → Int32), post none q1 y2 y3 y4 y5 y6 y7 y8 y9 y10 y11 y12 dw lw s1 s2) :
    wp_X11_meet pl (zi sl) (zA kd) wks false shw (zA ex) (zA nt) ww sw o1 o2 o3 o4 o5 o6 o7 o8 o9 o10 o11 o12 dw0 lw0 t1 t2 (zi wk) (zi fr) (zi ot) (zi st) (zi d) (zi m) (zi w) post := by
  have b7 := a7
  simp only [ir] at b7
  simp only [wp_X11_meet, wp_X11_meet_b26]
  rw [show (zi w < 0) = (zi w < zi 0) from rfl, show (2 < zi w) = (zi 2 < zi w) from rfl, zi_lt (by omega), zi_lt (by omega)]
  refine ⟨fun z => h0 (by rw [meetO, if_neg (fun y => by have := y.1.2.2; omega)]) .., fun z1 => ⟨fun z => h0 (by rw [meetO, if_neg (fun y => by have := y.1.2.2; omega)]) .., fun z2 => ?_⟩⟩
  refine p_ready C.1.1 C.1.2.2.1 C.1.2.2.2 a1 a5 a6 a2 a4 (fun t q dw hq hdw => ⟨fun _ => ?_, fun z => absurd z (by decide)⟩) (fun t => ⟨fun z => absurd rfl z, fun _ => h0 (by rw [meetO, if_neg (fun y => t ⟨y.1.1.1, y.1.1.2.1, y.1.1.2.2.1, y.1.1.2.2.2.1, y.1.2.1.2.2.2.1⟩)]) ..⟩)
  obtain ⟨t1', t2', t3', t4', t5'⟩ := t
  refine p_aim (b := -1) t3' ?_
  refine ⟨_, _, _, _, _, _, hq, ?_⟩
  refine p_seekAllG C t1' t2' t3' t4' (by omega) hdw (fun q' lw' hR => ?_)
  obtain ⟨La0, rfl, -⟩ := zA_ex t2
  have lz : ∀ {P : Prop}, P → (¬ (0 : Int32) < 0 ∧ ¬ (0 : Int32) < 0 ∧ ¬ (12000 : Int32) < 0 ∧ Int32.toNatClampNeg 0 + Int32.toNatClampNeg 12000 ≤ 12000 ∧ Int32.toNatClampNeg 0 + Int32.toNatClampNeg 12000 ≤ 12000) ∧ P := fun z => ⟨by decide, z⟩
  simp only [wp_X9_keepReached]
  refine lz (fun La eLa => ?_)
  have eLa2 : La = zA (fun k => if 0 ≤ k ∧ k < ((12000 : Nat) : Int) then q'.2.2.2.1 k else La0 k) := by
    rw [eLa, show Int32.toNatClampNeg 0 = 0 from by decide, show Int32.toNatClampNeg 12000 = 12000 from by decide]
    exact zA_cpy (by decide)
  rw [eLa2]
  clear eLa eLa2 La
  refine p_ready C.1.1 C.1.2.2.1 C.1.2.2.2 a3 a5 a6 a4 a2 (fun t q2 dw2 hq2 hdw2 => ⟨fun _ => ?_, fun z => absurd z (by decide)⟩) (fun t => ⟨fun z => absurd rfl z, fun _ => h0 (by rw [meetO, if_neg (fun y => t ⟨y.1.2.1.1, y.1.1.2.1, y.1.1.2.2.1, t5', t4'⟩)]) ..⟩)
  obtain ⟨u1', u2', u3', u4', u5'⟩ := t
  have mp : meetP tw wk fr ot st d m w := ⟨⟨t1', t2', t3', t4', t4'⟩, ⟨u1', t2', t3', t5', t5'⟩, by omega, by omega⟩
  refine p_aim (b := -1) t3' ?_
  refine ⟨_, _, _, _, _, _, hq2, ?_⟩
  refine p_seekAllG C u1' t2' t3' t5' (by omega) hdw2 (fun q'' lw'' hR2 => ?_)
  have rg : ∀ n : Nat, 100 * m + (n : Int) ≤ 12000 → ((meF (reC tw vf d (tw (383 + 7 * ot)) (-1) (100 * m + st)) (reC tw vf d (tw (383 + 7 * wk)) (-1) (100 * m + fr)) (100 * m) n).1 = 1000000 ∧ (meF (reC tw vf d (tw (383 + 7 * ot)) (-1) (100 * m + st)) (reC tw vf d (tw (383 + 7 * wk)) (-1) (100 * m + fr)) (100 * m) n).2 = -1) ∨ (0 ≤ (meF (reC tw vf d (tw (383 + 7 * ot)) (-1) (100 * m + st)) (reC tw vf d (tw (383 + 7 * wk)) (-1) (100 * m + fr)) (100 * m) n).1 ∧ (meF (reC tw vf d (tw (383 + 7 * ot)) (-1) (100 * m + st)) (reC tw vf d (tw (383 + 7 * wk)) (-1) (100 * m + fr)) (100 * m) n).1 ≤ 238000 ∧ 0 ≤ (meF (reC tw vf d (tw (383 + 7 * ot)) (-1) (100 * m + st)) (reC tw vf d (tw (383 + 7 * wk)) (-1) (100 * m + fr)) (100 * m) n).2 ∧ (meF (reC tw vf d (tw (383 + 7 * ot)) (-1) (100 * m + st)) (reC tw vf d (tw (383 + 7 * wk)) (-1) (100 * m + fr)) (100 * m) n).2 < 100 * m + n) := fun n hn => meF_rng (by omega) n (fun k k0 k1 => by
    have r1 := hR k k0 (by omega)
    have r2 := hR2 k k0 (by omega)
    omega)
  simp only [forall_eq, zi_lit, zi_mul, zi_neg]
  refine lp_for0 (fun n => (q2, zi d, zi m, zi st, zi (-1), zi 1, zi 0, zi 1, zi 0, zi q''.1, zi q''.2.1, zi q''.2.2.1, dw2, lw'', zA q''.2.2.2.1, zA (fun k => if 0 ≤ k ∧ k < ((12000 : Nat) : Int) then q'.2.2.2.1 k else La0 k), zi w, zi (if (meF (reC tw vf d (tw (383 + 7 * ot)) (-1) (100 * m + st)) (reC tw vf d (tw (383 + 7 * wk)) (-1) (100 * m + fr)) (100 * m) n).2 = -1 then 268435456 else (meF (reC tw vf d (tw (383 + 7 * ot)) (-1) (100 * m + st)) (reC tw vf d (tw (383 + 7 * wk)) (-1) (100 * m + fr)) (100 * m) n).1), zi (meF (reC tw vf d (tw (383 + 7 * ot)) (-1) (100 * m + st)) (reC tw vf d (tw (383 + 7 * wk)) (-1) (100 * m + fr)) (100 * m) n).2, zi (100 * m + n))) (12000 - 100 * m).toNat (by simp only [meF]; rw [show 100 * m + ((0 : Nat) : Int) = m * 100 by omega]; rfl) (fun kb => ?_) (fun i hi kb hkb => ?_)
  · have r := rg (12000 - 100 * m).toNat (by omega)
    have eB : meetB tw vf wk fr ot st d m = meF (reC tw vf d (tw (383 + 7 * ot)) (-1) (100 * m + st)) (reC tw vf d (tw (383 + 7 * wk)) (-1) (100 * m + fr)) (100 * m) (12000 - 100 * m).toNat := rfl
    rw [← eB] at r ⊢
    simp (disch := omega) only [wp_X11_meet_L116, zi_lit, zi_neg, zi_le, zi_eq]
    refine ⟨fun _ => ⟨fun z => ?_, fun z => h0 (by rw [meetO, if_neg (fun y => y.2 z)]) ..⟩, fun u => absurd (by omega) u⟩
    rw [if_neg z]
    refine ⟨fun w0 => ⟨fun w1 => ?_, fun w1 => ?_⟩, fun w0 => ?_⟩
    · rw [zi_rem (by omega)]
      exact h1 _ (by rw [meetO, if_pos ⟨mp, z⟩, if_neg w0, if_neg w1]) ..
    · rw [zi_div (by omega)]
      exact h1 _ (by rw [meetO, if_pos ⟨mp, z⟩, if_neg w0, if_pos w1]) ..
    · exact h1 _ (by rw [meetO, if_pos ⟨mp, z⟩, if_pos w0]) ..
  · have hni : ((i + 1 : Nat) : Int) = (i : Int) + 1 := by omega
    have r := rg i (by omega)
    have r1 := hR (100 * m + i) (by omega) (by omega)
    have r2 := hR2 (100 * m + i) (by omega) (by omega)
    simp (disch := omega) only [wp_X11_meet_L116, zi_lit, zi_le, zi_div, zi_rem]
    refine ⟨fun u => by omega, fun _ => ?_⟩
    refine p_reached (by omega) (by omega) ?_
    refine p_labelled (by omega) (by omega) ?_
    rw [show 100 * ((100 * m + (i : Int)) / 100) + (100 * m + i) % 100 = 100 * m + i by omega, if_pos (by omega), if_pos (by omega)]
    simp only [forall_eq, zi_add]
    rw [hni, ← Int.add_assoc] at hkb
    rw [zi_le (by split <;> omega)]
    refine ⟨fun u => ?_, fun u => ?_⟩
    · have eF : meF (reC tw vf d (tw (383 + 7 * ot)) (-1) (100 * m + st)) (reC tw vf d (tw (383 + 7 * wk)) (-1) (100 * m + fr)) (100 * m) (i + 1) = meF (reC tw vf d (tw (383 + 7 * ot)) (-1) (100 * m + st)) (reC tw vf d (tw (383 + 7 * wk)) (-1) (100 * m + fr)) (100 * m) i := by rw [meF, if_neg (fun y => by split at u <;> omega)]
      rw [eF] at hkb
      exact hkb
    · have cnd : reC tw vf d (tw (383 + 7 * ot)) (-1) (100 * m + st) (100 * m + i) < 1000000 ∧ reC tw vf d (tw (383 + 7 * wk)) (-1) (100 * m + fr) (100 * m + i) < 1000000 ∧ reC tw vf d (tw (383 + 7 * ot)) (-1) (100 * m + st) (100 * m + i) + reC tw vf d (tw (383 + 7 * wk)) (-1) (100 * m + fr) (100 * m + i) < (meF (reC tw vf d (tw (383 + 7 * ot)) (-1) (100 * m + st)) (reC tw vf d (tw (383 + 7 * wk)) (-1) (100 * m + fr)) (100 * m) i).1 := by split at u <;> omega
      have eF : meF (reC tw vf d (tw (383 + 7 * ot)) (-1) (100 * m + st)) (reC tw vf d (tw (383 + 7 * wk)) (-1) (100 * m + fr)) (100 * m) (i + 1) = (reC tw vf d (tw (383 + 7 * ot)) (-1) (100 * m + st) (100 * m + i) + reC tw vf d (tw (383 + 7 * wk)) (-1) (100 * m + fr) (100 * m + i), 100 * m + (i : Int)) := by rw [meF, if_pos cnd]
      rw [eF] at hkb
      dsimp only at hkb
      rw [if_neg (show ¬ 100 * m + (i : Int) = -1 by omega), show reC tw vf d (tw (383 + 7 * ot)) (-1) (100 * m + st) (100 * m + i) + reC tw vf d (tw (383 + 7 * wk)) (-1) (100 * m + fr) (100 * m + i) = q''.2.2.2.1 (100 * m + i) + q'.2.2.2.1 (100 * m + i) by omega] at hkb
      exact hkb
end ME
