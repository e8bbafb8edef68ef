/-! how many bits a word has: the last steps -/
theorem vB_d {r : Nat} (l : List Nat) (h : r < 256) : vB (r :: l) / 256 = vB l := by
  simp only [vB]
  generalize vB l = v
  omega
theorem vB_d2 {r s : Nat} (l : List Nat) (h : r < 256) (h' : s < 256) : vB (r :: s :: l) / 65536 = vB l := by
  rw [show (65536 : Nat) = 256 * 256 from rfl, ← Nat.div_div_eq_div_mul, vB_d _ h, vB_d _ h']
theorem vB_d4 {a b c d : Nat} (l : List Nat) (ha : a < 256) (hb : b < 256) (hc : c < 256) (hd : d < 256) : vB (a :: b :: c :: d :: l) / 4294967296 = vB l := by
  rw [show (4294967296 : Nat) = 65536 * 65536 from rfl, ← Nat.div_div_eq_div_mul, vB_d2 _ ha hb, vB_d2 _ hc hd]
theorem vB_add (r s : Nat) (l m k : List Nat) (h : vB l + vB m = vB k) : vB (r :: l) + vB (s :: m) = vB ((r + s) :: k) := by
  simp only [vB]
  rw [← h]
  generalize vB l = a
  generalize vB m = b
  omega
theorem vB_nil (l : List Nat) : vB l + vB [] = vB l := Nat.add_zero _
theorem vB_lt : ∀ l : List Nat, okB l → vB l < 256 ^ l.length
  | [], _ => by simp [vB]
  | r :: l, h => by
    have hr : r < 256 := h r (by simp)
    have ih := vB_lt l (fun x hx => h x (by simp [hx]))
    simp only [vB, List.length_cons, Nat.pow_succ]
    generalize 256 ^ l.length = q at *
    generalize vB l = v at *
    omega
theorem s4 {p0 p1 p2 p3 p4 p5 p6 p7 : Nat} (h0 : p0 ≤ 8) (h1 : p1 ≤ 8) (h2 : p2 ≤ 8) (h3 : p3 ≤ 8) (h4 : p4 ≤ 8) (h5 : p5 ≤ 8) (h6 : p6 ≤ 8) (h7 : p7 ≤ 8) :
    ∃ b4 b5 b6, b4 = vB [p0, p1, p2, p3, p4, p5, p6, p7] + vB [p0, p1, p2, p3, p4, p5, p6, p7] / 256 ∧ b5 = b4 + b4 / 65536 ∧ b6 = b5 + b5 / 4294967296 ∧ b4 < 256 ^ 8 ∧ b5 < 256 ^ 8 ∧ b6 < 256 ^ 8 ∧ b6 % 128 = p0 + p1 + p2 + p3 + p4 + p5 + p6 + p7 := by
  have e4 : vB [p0, p1, p2, p3, p4, p5, p6, p7] + vB [p0, p1, p2, p3, p4, p5, p6, p7] / 256 = vB [p0 + p1, p1 + p2, p2 + p3, p3 + p4, p4 + p5, p5 + p6, p6 + p7, p7] := by
    rw [vB_d _ (by omega)]
    exact vB_add _ _ _ _ _ (vB_add _ _ _ _ _ (vB_add _ _ _ _ _ (vB_add _ _ _ _ _ (vB_add _ _ _ _ _ (vB_add _ _ _ _ _ (vB_add _ _ _ _ _ (vB_nil _)))))))
  have e5 : vB [p0 + p1, p1 + p2, p2 + p3, p3 + p4, p4 + p5, p5 + p6, p6 + p7, p7] + vB [p0 + p1, p1 + p2, p2 + p3, p3 + p4, p4 + p5, p5 + p6, p6 + p7, p7] / 65536 = vB [p0 + p1 + (p2 + p3), p1 + p2 + (p3 + p4), p2 + p3 + (p4 + p5), p3 + p4 + (p5 + p6), p4 + p5 + (p6 + p7), p5 + p6 + p7, p6 + p7, p7] := by
    rw [vB_d2 _ (by omega) (by omega)]
    exact vB_add _ _ _ _ _ (vB_add _ _ _ _ _ (vB_add _ _ _ _ _ (vB_add _ _ _ _ _ (vB_add _ _ _ _ _ (vB_add _ _ _ _ _ (vB_nil _))))))
  have e6 : vB [p0 + p1 + (p2 + p3), p1 + p2 + (p3 + p4), p2 + p3 + (p4 + p5), p3 + p4 + (p5 + p6), p4 + p5 + (p6 + p7), p5 + p6 + p7, p6 + p7, p7] + vB [p0 + p1 + (p2 + p3), p1 + p2 + (p3 + p4), p2 + p3 + (p4 + p5), p3 + p4 + (p5 + p6), p4 + p5 + (p6 + p7), p5 + p6 + p7, p6 + p7, p7] / 4294967296 = vB [p0 + p1 + (p2 + p3) + (p4 + p5 + (p6 + p7)), p1 + p2 + (p3 + p4) + (p5 + p6 + p7), p2 + p3 + (p4 + p5) + (p6 + p7), p3 + p4 + (p5 + p6) + p7, p4 + p5 + (p6 + p7), p5 + p6 + p7, p6 + p7, p7] := by
    rw [vB_d4 _ (by omega) (by omega) (by omega) (by omega)]
    exact vB_add _ _ _ _ _ (vB_add _ _ _ _ _ (vB_add _ _ _ _ _ (vB_add _ _ _ _ _ (vB_nil _))))
  have ok : ∀ l : List Nat, l.length = 8 → okB l → vB l < 256 ^ 8 := fun l hl hk => by have := vB_lt l hk; rwa [hl] at this
  refine ⟨_, _, _, rfl, rfl, rfl, ?_, ?_, ?_, ?_⟩
  · rw [e4]
    refine ok _ rfl (fun r hr => ?_)
    simp only [List.mem_cons, List.not_mem_nil, or_false] at hr
    omega
  · rw [e4, e5]
    refine ok _ rfl (fun r hr => ?_)
    simp only [List.mem_cons, List.not_mem_nil, or_false] at hr
    omega
  · rw [e4, e5, e6]
    refine ok _ rfl (fun r hr => ?_)
    simp only [List.mem_cons, List.not_mem_nil, or_false] at hr
    omega
  · rw [e4, e5, e6, vB]
    generalize vB [p1 + p2 + (p3 + p4) + (p5 + p6 + p7), p2 + p3 + (p4 + p5) + (p6 + p7), p3 + p4 + (p5 + p6) + p7, p4 + p5 + (p6 + p7), p5 + p6 + p7, p6 + p7, p7] = v
    omega
