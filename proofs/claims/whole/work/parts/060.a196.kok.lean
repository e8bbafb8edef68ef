/-! the kinds of fault that a line may have; the row of codes as it is laid down -/
section KO
variable {tp : Int → Int} {tz : Int}
def kok (k : Int) : Prop := k = 1 ∨ k = 3 ∨ k = 4 ∨ k = 5
def kok0 (p : Int × Nat) : Prop := p.1 = 0 ∨ kok p.1
theorem kok0_nS {lo hi : Int} {i j : Nat} : kok0 (nS tp tz lo hi i, j) := by
  have := nS_rng (tp := tp) (tz := tz) (lo := lo) (hi := hi) (i := i)
  show nS tp tz lo hi i = 0 ∨ kok (nS tp tz lo hi i)
  unfold kok; omega
theorem kok0_l {k : Int} {j : Nat} (h : kok k) : kok0 (k, j) := Or.inr h
theorem kok0_sm {j : Nat} : kok0 (smK tp tz j) := by
  rw [smK]
  split
  · exact Or.inl rfl
  · exact Or.inr (Or.inl rfl)
theorem kok0_if {c : Prop} [d : Decidable c] {p q : Int × Nat} (h1 : kok0 p) (h2 : kok0 q) : kok0 (if c then p else q) := by
  split
  · exact h1
  · exact h2
theorem kok0_cS {q lo hi : Int} {i : Nat} : kok0 (cS tp tz q lo hi i) := by
  have := cS_rng (tp := tp) (tz := tz) (q := q) (lo := lo) (hi := hi) (i := i)
  unfold kok0 kok; omega
theorem kok_1 : kok 1 := Or.inl rfl
theorem kok_3 : kok 3 := Or.inr (Or.inl rfl)
theorem kok_5 : kok 5 := Or.inr (Or.inr (Or.inr rfl))
theorem kok0_th {S : Int → Int} {what : Int} {i : Nat} : kok0 (thK tp tz S what i) := by
  rw [thK]
  exact kok0_if kok0_nS (kok0_if kok0_nS (kok0_if (kok0_l kok_3) (kok0_if kok0_sm (kok0_if kok0_nS kok0_sm))))
theorem kok0_wt {S : Int → Int} {i : Nat} : kok0 (wtK tp tz S i) := by
  rw [wtK]
  exact kok0_if (kok0_l kok_5) (kok0_if kok0_nS (kok0_if kok0_nS kok0_sm))
theorem kok0_cl {S : Int → Int} {i : Nat} {k : Int} {j : Nat} (h : k = 0 ∨ k = 1 ∨ k = 5) : kok0 (clK tp tz S i k j) := by
  rw [clK]
  refine kok0_if (kok0_l kok_5) (kok0_if kok0_nS (kok0_if kok0_nS (kok0_if (kok0_l kok_1) (kok0_if ?_ kok0_sm))))
  show k = 0 ∨ kok k
  unfold kok; omega
theorem kok0_su {S : Int → Int} {i : Nat} : kok0 (suK tp tz S i) := by
  rw [suK]
  exact kok0_if (kok0_l kok_5) (kok0_if kok0_nS (kok0_if kok0_cS (kok0_if (kok0_l kok_3) (kok0_if (kok0_l kok_1) (kok0_if kok0_nS (kok0_if kok0_cS kok0_sm))))))
theorem kok0_wg {i : Nat} : ∀ n, kok0 (wkG tp tz i n)
  | 0 => by rw [wkG]; exact kok0_sm
  | n + 1 => by rw [wkG]; exact kok0_if kok0_cS (kok0_wg n)
theorem kok0_wk {S : Int → Int} {i : Nat} : kok0 (wkK tp tz S i) := by
  rw [wkK]
  exact kok0_if kok0_nS (kok0_if (kok0_l kok_3) (kok0_wg 6))
end KO
section CB
variable {op arg op' arg' : Nat → Int32} {S S' : Int → Int} {vf : Int → Int → Int → Int32}
/-- the lines told so far, their codes among the first e of the new town's -/
def cdB (op arg : Nat → Int32) (S : Int → Int) (vf : Int → Int → Int → Int32) (e : Nat) : Prop := ∀ i, 0 ≤ i → i < S 200 → ∀ o a : Nat → Int32, (∀ k : Nat, k < e → o k = op (1100 + k) ∧ a k = arg (1100 + k)) → ∀ d m, 0 ≤ d → d < 4 → 0 ≤ m → m < 120 → clW o a (S (203 + 3 * i)) d m (vf i d m)
theorem cdB_ag {e e' : Nat} (h : cdB op arg S vf e) (a : agG 200 261 S S') (hn : S 200 ≤ 20) (he : e ≤ e') (hc : ∀ k : Nat, k < e → op' (1100 + k) = op (1100 + k) ∧ arg' (1100 + k) = arg (1100 + k)) : cdB op' arg' S' vf e' := by
  intro i i0 i1 o b hk
  rw [a 200 (by omega) (by omega)] at i1
  rw [a _ (by omega) (by omega)]
  refine h i i0 i1 o b (fun k hk2 => ?_)
  have x := hk k (by omega)
  have y := hc k hk2
  exact ⟨x.1.trans y.1, x.2.trans y.2⟩
theorem cdB_put {e : Nat} {C : List Int} {sq what : Int} {v : Int → Int → Int32} (h : cdB op arg S vf e) (hn : 0 ≤ S 200 ∧ S 200 < 20) (hc : emR op arg op' arg' e C) (hl : e + C.length < 5000) (hv : ∀ d m : Int, rnO (zi d) (zi m) C [] = some [v d m]) : cdB (upd op' (1100 + (e + C.length)) 0) (upd arg' (1100 + (e + C.length)) 0) (clS S sq what e) (upI vf (S 200) v) (e + C.length + 1) := by
  have e0 : clS S sq what e 200 = S 200 + 1 := by rw [clS, upI_s]
  intro i i0 i1 o b hk
  rw [e0] at i1
  by_cases q : i = S 200
  · subst q
    have en : clS S sq what e (203 + 3 * S 200) = e := by rw [clS, upI_n (by omega), upI_s]
    rw [en, upI_s]
    intro d m d0 d1 m0 m1
    refine p_worthR (c := e) (C := C) ⟨fun t ht => ?_, ?_⟩ (by omega) (hv d m)
    · have x := hk (e + t) (by omega)
      have y := hc.2 t ht
      rw [pk_un (by omega), pk_un (by omega), show 1100 + (e + t) = 1100 + e + t by omega] at x
      exact ⟨x.1.trans y.1, x.2.trans y.2⟩
    · have x := hk (e + C.length) (by omega)
      rw [pk_us] at x
      exact x.1
  · have en : clS S sq what e (203 + 3 * i) = S (203 + 3 * i) := by rw [clS, upI_n (by omega), upI_n (by omega), upI_n (by omega), upI_n (by omega)]
    rw [en, upI_n q]
    refine h i i0 (by omega) o b (fun k hk2 => ?_)
    have x := hk k (by omega)
    have y := hc.1 (1100 + k) (by omega)
    rw [pk_un (by omega), pk_un (by omega)] at x
    exact ⟨x.1.trans y.1, x.2.trans y.2⟩
end CB
