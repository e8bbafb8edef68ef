/-! judged: both sides -/
section JE
variable {pl : Pool} {tw : Int → Int} {vf : Int → Int → Int → Int32} {sl : Int} {kd hg : Int → Int} {wks : Nat → Option Nat} {shw : Nat → Int64} {ex nt : Int → Int} {ww sw gw : Nat → Int64} {op arg : Nat → Int32}
theorem cntC_congr {P Q : Int → Prop} : ∀ n : Nat, (∀ j : Int, 0 ≤ j → j < n → (P j ↔ Q j)) → cntC P n = cntC Q n
  | 0, _ => rfl
  | n + 1, h => by
    have e := h n (by omega) (by omega)
    rw [cntC, cntC, cntC_congr n (fun j a b => h j a (by omega))]
    by_cases q : P n
    · rw [if_pos q, if_pos (e.mp q)]
    · rw [if_neg q, if_neg (fun z => q (e.mpr z))]
theorem cntC_stop {P : Int → Prop} {a : Nat} : ∀ k : Nat, (∀ j : Int, (a : Int) ≤ j → j < ((a + k : Nat) : Int) → ¬ P j) → cntC P (a + k) = cntC P a
  | 0, _ => rfl
  | k + 1, h => by
    rw [← Nat.add_assoc, cntC, cntC_stop k (fun j x y => h j x (by omega)), if_neg (h ((a + k : Nat) : Int) (by omega) (by omega)), Int.add_zero]
theorem mF_congr {sn P Q : Int → Int} {mends m : Int} : ∀ n : Nat, (∀ j, m ≤ j → j < m + n → P j = Q j) → mF sn P ww mends m n = mF sn Q ww mends m n
  | 0, _ => rfl
  | n + 1, h => by
    have ih := mF_congr (sn := sn) (mends := mends) n (fun j a b => h j a (by omega))
    have e1 := h (m + n) (by omega) (by omega)
    rw [mF_s, mF_s, ih, e1]
    have e2 : h0F P ww m n (mF sn Q ww mends m n).1 = h0F Q ww m n (mF sn Q ww mends m n).1 := by
      simp only [h0F]
      by_cases q : 0 < n
      · rw [e1, h (m + n - 1) (by omega) (by omega)]
      · rw [if_neg (fun z => q z.1), if_neg (fun z => q z.1)]
    rw [e2]
theorem mul_rng {a b : Int} (ha : 0 ≤ a ∧ a ≤ 99) (hb : 0 ≤ b ∧ b ≤ 200) : 0 ≤ a * b ∧ a * b ≤ 19800 := by
  refine ⟨Int.mul_nonneg ha.1 hb.1, ?_⟩
  have h1 : a * b ≤ 99 * b := Int.mul_le_mul_of_nonneg_right ha.2 hb.1
  omega
noncomputable def jsun (tw : Int → Int) (vf : Int → Int → Int → Int32) (d : Int) (P : Int → Int) (n : Nat) : Int := cntC (fun j => P j ≠ -1 ∧ snC tw vf d (100 * j + P j) = 1) n
noncomputable def judgedV (tw : Int → Int) (vf : Int → Int → Int → Int32) (ww : Nat → Int64) (wk d m w : Int) (q : Int × Int × Int × Int) (P : Int → Int) : Int :=
  if w = 0 then (if q.1 = 0 then -1 else q.2.1) else if w = 1 then q.1 else if w = 2 then jsun tw vf d P 120 else if w = 3 then (mF (snC tw vf d) P ww (tw (385 + 7 * wk)) m (q.2.2.1 - m).toNat).2 else if w = 4 then (if 0 < tw (386 + 7 * wk) - tw (387 + 7 * wk) * jsun tw vf d P 120 - tw (388 + 7 * wk) * (q.2.2.1 - m - jsun tw vf d P 120) then tw (386 + 7 * wk) - tw (387 + 7 * wk) * jsun tw vf d P 120 - tw (388 + 7 * wk) * (q.2.2.1 - m - jsun tw vf d P 120) else 0) else if w = 5 then q.2.2.1 else q.2.2.2
noncomputable def judgedO (tw : Int → Int) (vf : Int → Int → Int → Int32) (ww : Nat → Int64) (tl : Int → Int) (T wk d m fr w : Int) : Option Int := @ite (Option Int) (tripP tw wk d m fr fr ∧ 0 ≤ w ∧ w ≤ 6) (Classical.propDecidable _) (some (judgedV tw vf ww wk d m w (jg tw (shC tw vf d) tl (tw (383 + 7 * wk)) m fr T.toNat) (jp tw (shC tw vf d) tl (tw (383 + 7 * wk)) m fr T.toNat))) none
theorem p_judgedC (C : CS pl tw vf sl kd hg wks shw ex nt ww sw gw) {tl f : Int → Int} {T wk d m fr w : Int} (hT : 0 ≤ T ∧ T ≤ 60) (hfl : ∀ j, 0 ≤ j → j < T → f j = tl j ∧ 0 ≤ tl j ∧ tl j ≤ 4) (a1 : ir wk) (a2 : ir d) (a3 : ir m) (a4 : ir fr) (a6 : ir w) {o1 : Nat} {o2 o3 o4 o5 o6 o7 o8 o9 o10 o11 o12 : Int32} {dw0 : Nat → Int64} {t1 t2 : Nat → Int32} {post : Option Int32 → Nat → Int32 → Int32 → Int32 → Int32 → Int32 → Int32 → Int32 → Int32 → Int32 → Int32 → (Nat → Int64) → Int32 → (Nat → Int32) → (Nat → Int32) → Prop}
    (h1 : ∀ v, judgedO tw vf ww tl T wk d m fr w = some v → ∀ (q1 : Nat) (y2 y3 y4 y5 y6 y7 y8 y9 y10 y11 y12 : Int32) (dw : Nat → Int64) (s1 s2 : Nat → Int32), post (some (zi v)) q1 y2 y3 y4 y5 y6 y7 y8 y9 y10 y11 dw y12 s1 s2)
    (h0 : judgedO tw vf ww tl T wk d m fr w = none → ∀ (q1 : Nat) (y2 y3 y4 y5 y6 y7 y8 y9 y10 y11 y12 : Int32) (dw : Nat → Int64) (s1 s2 : Nat → Int32), post none q1 y2 y3 y4 y5 y6 y7 y8 y9 y10 y11 dw y12 s1 s2) :
    wp_X11_judged pl (zA kd) wks shw (zi T) (zA f) sw (zA nt) ww o1 o2 o3 o4 o5 o6 o7 o8 o9 o10 o11 dw0 o12 t1 t2 (zi wk) (zi d) (zi m) (zi fr) (zi w) post := by
  have b6 := a6
  simp only [ir] at b6
  simp only [wp_X11_judged, wp_X11_judged_b26]
  rw [show (zi w < 0) = (zi w < zi 0) from rfl, show (6 < zi w) = (zi 6 < zi w) from rfl, zi_lt (by omega), zi_lt (by omega)]
  refine ⟨fun z => h0 (by rw [judgedO, if_neg (fun y => by have := y.2; omega)]) .., fun z => ⟨fun z2 => h0 (by rw [judgedO, if_neg (fun y => by have := y.2; omega)]) .., fun z2 => ?_⟩⟩
  refine p_ready C.1.1 C.1.2.2.1 C.1.2.2.2 a1 a2 a3 a4 a4 (fun t q dw hq hdw => ⟨fun _ => ⟨_, _, _, _, _, _, hq, ?_⟩, fun z => absurd z (by decide)⟩) (fun t => ⟨fun z => absurd rfl z, fun _ => h0 (by rw [judgedO, if_neg (fun y => t y.1)]) ..⟩)
  have t' := t
  obtain ⟨t1', t2', t3', t4', -⟩ := t'
  have wo := C.1.2.1 wk t1'.1.1 t1'.1.2 t1'.2
  have tls : ∀ j, 0 ≤ j → j < (T.toNat : Int) → 0 ≤ tl j ∧ tl j ≤ 4 := fun j a b => (hfl j a (by omega)).2
  have J := jg_I (tw := tw) (sh := shC tw vf d) (tl := tl) wo.1 t3' t4'.1 t4'.2 T.toNat tls
  refine p_goAlong C.1.2.2.1 (CS_sh C t2') t2' C.2.2.2.1.2 C.2.2.2.1.1 wo.1 t3' t4'.1 t4'.2 hT hfl (fun P wi hP iP => ?_)
  have V : ∀ v, v = judgedV tw vf ww wk d m w (jg tw (shC tw vf d) tl (tw (383 + 7 * wk)) m fr T.toNat) (jp tw (shC tw vf d) tl (tw (383 + 7 * wk)) m fr T.toNat) → judgedO tw vf ww tl T wk d m fr w = some v := fun v hv => by rw [judgedO, if_pos ⟨t, by omega, by omega⟩, hv]
  generalize jg tw (shC tw vf d) tl (tw (383 + 7 * wk)) m fr T.toNat = Q at *
  generalize jp tw (shC tw vf d) tl (tw (383 + 7 * wk)) m fr T.toNat = R at *
  obtain ⟨i1, i2, i3, i4, i5, i6, i7, i8⟩ := J
  have hsn : ∀ k, 0 ≤ k → k < 12000 → (dkF dw k = true ∧ snC tw vf d k = 0) ∨ (dkF dw k = false ∧ snC tw vf d k = 1) := fun k a b => by
    have x := CS_dk C t2' hdw a b
    rcases snC_01 tw vf d k with ⟨y, z⟩ | ⟨y, z⟩
    · exact Or.inl ⟨x.mpr z, y⟩
    · refine Or.inr ⟨?_, y⟩
      cases e : dkF dw k with
      | false => rfl
      | true => exact absurd (x.mp e) z
  have Pr : ∀ j, 0 ≤ j → j < 120 → P j = -1 ∨ (0 ≤ P j ∧ P j < 100) := fun j a b => by
    rw [hP j a b]
    by_cases z : m ≤ j ∧ j < Q.2.2.1
    · exact Or.inr (i8 j z.1 z.2)
    · exact Or.inl (i7 j (by omega))
  refine p_sunPath iP hsn Pr ?_
  have es : cntC (fun j => P j ≠ -1 ∧ snC tw vf d (100 * j + P j) = 1) 120 = jsun tw vf d R 120 := cntC_congr 120 (fun j a b => by rw [hP j a (by omega)])
  have cr := cntC_rng (fun j => P j ≠ -1 ∧ snC tw vf d (100 * j + P j) = 1) 120
  rw [es] at cr ⊢
  have hs1 : jsun tw vf d R 120 ≤ Q.2.2.1 - m := by
    have x1 : jsun tw vf d R 120 = jsun tw vf d R Q.2.2.1.toNat := by
      have := cntC_stop (P := fun j => R j ≠ -1 ∧ snC tw vf d (100 * j + R j) = 1) (a := Q.2.2.1.toNat) (120 - Q.2.2.1.toNat) (fun j a b z => z.1 (i7 j (by omega)))
      rw [show Q.2.2.1.toNat + (120 - Q.2.2.1.toNat) = 120 by omega] at this
      exact this
    have x2 : ∀ n : Nat, (n : Int) ≤ m → jsun tw vf d R n = 0 := fun n hn => by
      have := cntC_stop (P := fun j => R j ≠ -1 ∧ snC tw vf d (100 * j + R j) = 1) (a := 0) n (fun j a b z => z.1 (i7 j (by omega)))
      rw [Nat.zero_add] at this
      exact this
    have x3 : ∀ k : Nat, jsun tw vf d R (m.toNat + k) ≤ k := fun k => by
      induction k with
      | zero => rw [Nat.add_zero, x2 _ (by omega)]; omega
      | succ k ih =>
        have e : jsun tw vf d R (m.toNat + (k + 1)) = jsun tw vf d R (m.toNat + k) + @ite Int (R ((m.toNat + k : Nat) : Int) ≠ -1 ∧ snC tw vf d (100 * ((m.toNat + k : Nat) : Int) + R ((m.toNat + k : Nat) : Int)) = 1) (Classical.propDecidable _) 1 0 := rfl
        rw [e]
        split <;> omega
    have := x3 (Q.2.2.1.toNat - m.toNat)
    rw [show m.toNat + (Q.2.2.1.toNat - m.toNat) = Q.2.2.1.toNat by omega] at this
    omega
  have mr1 := mul_rng (a := tw (387 + 7 * wk)) (b := jsun tw vf d R 120) wo.2.2.2.2.1 (by omega)
  have mr2 := mul_rng (a := tw (388 + 7 * wk)) (b := Q.2.2.1 - m - jsun tw vf d R 120) wo.2.2.2.2.2 (by omega)
  have ice := wo.2.2.2.1
  simp (disch := omega) only [zi_lit, zi_neg, zi_eq, zi_mul, zi_sub]
  refine ⟨fun w0 => ⟨fun y => h1 _ (V _ (by rw [judgedV, if_pos w0, if_neg y])) .., fun y => h1 _ (V _ (by rw [judgedV, if_pos w0, if_pos y])) ..⟩, fun w1 => h1 _ (V _ (by rw [judgedV, if_neg (by omega), if_pos w1])) .., fun w2 => h1 _ (V _ (by rw [judgedV, if_neg (by omega), if_neg (by omega), if_pos w2])) .., fun w3 => ?_, fun w4 => ?_, fun w5 => h1 _ (V _ (by rw [judgedV, if_neg (by omega), if_neg (by omega), if_neg (by omega), if_neg (by omega), if_neg (by omega), if_pos w5])) .., fun n0 n1 n2 n3 n4 n5 => h1 _ (V _ (by rw [judgedV, if_neg n0, if_neg n1, if_neg n2, if_neg n3, if_neg n4, if_neg n5])) ..⟩
  · refine p_greatest (sn := snC tw vf d) iP hsn ⟨t3'.1, i1.1⟩ i1.2 (fun j a b => by rw [hP j (by omega) (by omega)]; exact i8 j a b) (by omega) ?_
    rw [mF_congr (Q := R) (Q.2.2.1 - m).toNat (fun j a b => hP j (by omega) (by omega))]
    exact h1 _ (V _ (by rw [judgedV, if_neg (by omega), if_neg (by omega), if_neg (by omega), if_pos w3])) ..
  · by_cases y : 0 < tw (386 + 7 * wk) - tw (387 + 7 * wk) * jsun tw vf d R 120 - tw (388 + 7 * wk) * (Q.2.2.1 - m - jsun tw vf d R 120)
    · rw [if_pos (by rw [zi_lt (by omega)]; exact y)]
      exact h1 _ (V _ (by rw [judgedV, if_neg (by omega), if_neg (by omega), if_neg (by omega), if_neg (by omega), if_pos w4, if_pos y])) ..
    · rw [if_neg (by rw [zi_lt (by omega)]; exact y)]
      exact h1 0 (V _ (by rw [judgedV, if_neg (by omega), if_neg (by omega), if_neg (by omega), if_neg (by omega), if_pos w4, if_neg y])) ..
end JE
