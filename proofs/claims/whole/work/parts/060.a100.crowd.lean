/-! the crowd: what all bear together grows less with each change -/
/-- along the minutes: what a row of squares costs -/
def smN (c f : Int → Int) : Nat → Int
  | 0 => 0
  | m + 1 => smN c f m + (if 0 ≤ f m then c (100 * m + f m) else 0)
def sm (c f : Int → Int) : Int := smN c f 120
/-- how many others are there -/
def cnO (P : Int → Int → Int) (i m s : Int) : Nat → Int
  | 0 => 0
  | N + 1 => cnO P i m s N + (if (N : Int) ≠ i ∧ P N m = s then 1 else 0)
def cK (sn : Int → Int) (e : Int) (P : Int → Int → Int) (N : Nat) (i k : Int) : Int := sn k + e * cnO P i (k / 100) (k % 100) N
def upP (P : Int → Int → Int) (i : Int) (f : Int → Int) : Int → Int → Int := fun j => if j = i then f else P j
def okF (mn : Int) (f : Int → Int) : Prop := ∀ m, 0 ≤ m → m < 120 → (f m = -1 ∨ (0 ≤ f m ∧ f m < 100)) ∧ (m < mn → f m = -1)
def ovN (f g : Int → Int) : Nat → Int
  | 0 => 0
  | m + 1 => ovN f g m + (if 0 ≤ f m ∧ f m = g m then 1 else 0)
def tN (f : Int → Int) (P : Int → Int → Int) (i : Int) (N : Nat) : Nat → Int
  | 0 => 0
  | m + 1 => tN f P i N m + (if 0 ≤ f m then cnO P i m (f m) N else 0)
theorem cnO_rng (P : Int → Int → Int) (i m s : Int) : ∀ N : Nat, 0 ≤ cnO P i m s N ∧ cnO P i m s N ≤ N
  | 0 => by simp [cnO]
  | N + 1 => by
    have := cnO_rng P i m s N
    rw [cnO]
    split <;> omega
theorem ovN_symm (f g : Int → Int) : ∀ M : Nat, ovN f g M = ovN g f M
  | 0 => rfl
  | M + 1 => by
    rw [ovN, ovN, ovN_symm f g M]
    congr 1
    by_cases h : 0 ≤ f M ∧ f M = g M
    · rw [if_pos h, if_pos (by omega)]
    · rw [if_neg h, if_neg (by omega)]
theorem tN_zero (f : Int → Int) (P : Int → Int → Int) (i : Int) : ∀ M : Nat, tN f P i 0 M = 0
  | 0 => rfl
  | M + 1 => by
    rw [tN, tN_zero f P i M]
    simp [cnO]
theorem tN_succ (f : Int → Int) (P : Int → Int → Int) (i : Int) (N : Nat) : ∀ M : Nat, tN f P i (N + 1) M = tN f P i N M + (if (N : Int) ≠ i then ovN f (P N) M else 0)
  | 0 => by simp [tN, ovN]
  | M + 1 => by
    have ih := tN_succ f P i N M
    rw [tN, tN, ih, cnO]
    by_cases hN : (N : Int) ≠ i
    · rw [if_pos hN, if_pos hN, ovN]
      by_cases hf : 0 ≤ f M
      · rw [if_pos hf, if_pos hf]
        by_cases he : P N M = f M
        · rw [if_pos ⟨hN, he⟩, if_pos ⟨hf, he.symm⟩]; omega
        · rw [if_neg (fun z => he z.2), if_neg (fun z => he z.2.symm)]; omega
      · rw [if_neg hf, if_neg hf, if_neg (fun z => hf z.1)]; omega
    · have e3 : (if (N : Int) ≠ i ∧ P N M = f M then (1 : Int) else 0) = 0 := if_neg (fun z => hN z.1)
      rw [if_neg hN, if_neg hN, e3]
      split <;> omega
theorem tN_up (f B : Int → Int) (P : Int → Int → Int) (x : Int) (i : Nat) (M : Nat) : ∀ N : Nat, tN f (upP P i B) x N M = tN f P x N M + (if i < N ∧ (i : Int) ≠ x then ovN f B M - ovN f (P i) M else 0)
  | 0 => by rw [tN_zero, tN_zero, if_neg (fun z => absurd z.1 (Nat.not_lt_zero _))]; rfl
  | N + 1 => by
    have ih := tN_up f B P x i M N
    rw [tN_succ, tN_succ, ih]
    by_cases hN : (N : Int) = i
    · have e : upP P i B N = B := by rw [upP, if_pos hN]
      have hNi : N = i := by omega
      rw [e, if_neg (fun z => by omega)]
      by_cases hx : (N : Int) ≠ x
      · rw [if_pos hx, if_pos hx, if_pos ⟨by omega, by omega⟩, hNi]; omega
      · rw [if_neg hx, if_neg hx, if_neg (fun z => by omega)]
    · have e : upP P i B N = P N := by rw [upP, if_neg hN]
      rw [e]
      by_cases hi : i < N ∧ (i : Int) ≠ x
      · have e4 : ∀ A : Int, (if i < N + 1 ∧ (i : Int) ≠ x then A else 0) = A := fun A => if_pos ⟨by omega, hi.2⟩
        rw [if_pos hi, e4]; omega
      · have e4 : ∀ A : Int, (if i < N + 1 ∧ (i : Int) ≠ x then A else 0) = 0 := fun A => if_neg (fun z => hi ⟨by omega, z.2⟩)
        rw [if_neg hi, e4]; omega
theorem smN_cK {sn : Int → Int} {e mn : Int} {P : Int → Int → Int} {N : Nat} {i : Int} {f : Int → Int} (hf : okF mn f) : ∀ M : Nat, M ≤ 120 → smN (cK sn e P N i) f M = smN sn f M + e * tN f P i N M
  | 0, _ => by simp [smN, tN]
  | M + 1, hM => by
    have ih := smN_cK (sn := sn) (e := e) (P := P) (N := N) (i := i) hf M (by omega)
    have h := (hf M (by omega) (by omega)).1
    rw [smN, smN, tN, ih]
    by_cases h0 : 0 ≤ f M
    · rw [if_pos h0, if_pos h0, if_pos h0, cK, show (100 * (M : Int) + f M) / 100 = M by omega, show (100 * (M : Int) + f M) % 100 = f M by omega, Int.mul_add]
      omega
    · rw [if_neg h0, if_neg h0, if_neg h0]
      simp
theorem sm_cK {sn : Int → Int} {e mn : Int} {P : Int → Int → Int} {N : Nat} {i : Int} {f : Int → Int} (hf : okF mn f) : sm (cK sn e P N i) f = sm sn f + e * tN f P i N 120 := smN_cK hf 120 (Nat.le_refl _)
/-- what all bear together -/
def phN (sn : Int → Int) (e : Int) (P : Int → Int → Int) : Nat → Int
  | 0 => 0
  | N + 1 => phN sn e P N + (sm sn (P N) + e * tN (P N) P N N 120)
section PH
variable {sn : Int → Int} {e : Int}
theorem upP_s (P : Int → Int → Int) (i : Int) (f : Int → Int) : upP P i f i = f := if_pos rfl
theorem upP_n {P : Int → Int → Int} {i j : Int} {f : Int → Int} (h : j ≠ i) : upP P i f j = P j := if_neg h
theorem phN_ge (P : Int → Int → Int) (i : Nat) (B : Int → Int) : ∀ N : Nat, N ≤ i → phN sn e (upP P i B) N = phN sn e P N
  | 0, _ => rfl
  | N + 1, h => by
    rw [phN, phN, phN_ge P i B N (by omega), upP_n (by omega), tN_up, if_neg (fun z => by omega), Int.add_zero]
theorem phN_up (P : Int → Int → Int) (i : Nat) (B : Int → Int) : ∀ N : Nat, i < N → phN sn e (upP P i B) N = phN sn e P N + ((sm sn B + e * tN B P i N 120) - (sm sn (P i) + e * tN (P i) P i N 120))
  | 0, h => absurd h (Nat.not_lt_zero _)
  | N + 1, h => by
    rw [phN, phN, tN_succ, tN_succ]
    by_cases hi : i < N
    · rw [phN_up P i B N hi, upP_n (show (N : Int) ≠ i by omega), tN_up, if_pos ⟨hi, by omega⟩, if_pos (by omega), if_pos (by omega), ovN_symm B (P N), ovN_symm (P i) (P N), Int.mul_add, Int.mul_add, Int.mul_add, Int.mul_sub]
      omega
    · have e1 : N = i := by omega
      subst e1
      rw [phN_ge P N B N (Nat.le_refl _), upP_s, tN_up, if_neg (fun z => by omega), if_neg (by simp), if_neg (by simp)]
      simp only [Int.add_zero]
      omega
theorem smN_rng {c f : Int → Int} {b mn : Int} (hf : okF mn f) (hb : 0 ≤ b) (hc : ∀ k, 0 ≤ k → k < 12000 → 0 ≤ c k ∧ c k ≤ b) : ∀ M : Nat, M ≤ 120 → 0 ≤ smN c f M ∧ smN c f M ≤ b * M
  | 0, _ => by simp [smN]
  | M + 1, hM => by
    have ih := smN_rng hf hb hc M (by omega)
    have h := (hf M (by omega) (by omega)).1
    have e : b * ((M + 1 : Nat) : Int) = b * M + b := by rw [show ((M + 1 : Nat) : Int) = (M : Int) + 1 by omega, Int.mul_add, Int.mul_one]
    rw [smN, e]
    split
    · have := hc (100 * M + f M) (by omega) (by omega)
      omega
    · omega
theorem sm_rng {c f : Int → Int} {b mn : Int} (hf : okF mn f) (hb : 0 ≤ b) (hc : ∀ k, 0 ≤ k → k < 12000 → 0 ≤ c k ∧ c k ≤ b) : 0 ≤ sm c f ∧ sm c f ≤ b * 120 := smN_rng hf hb hc 120 (Nat.le_refl _)
theorem cK_rng {P : Int → Int → Int} {N : Nat} {i : Int} (hN : N ≤ 8) (he : 0 ≤ e ∧ e ≤ 9) (hsn : ∀ k, 0 ≤ k → k < 12000 → 0 ≤ sn k ∧ sn k ≤ 1) : ∀ k, 0 ≤ k → k < 12000 → 0 ≤ cK sn e P N i k ∧ cK sn e P N i k ≤ 73 := by
  intro k a b
  have h := cnO_rng P i (k / 100) (k % 100) N
  have := hsn k a b
  have m0 : 0 ≤ e * cnO P i (k / 100) (k % 100) N := Int.mul_nonneg he.1 h.1
  have m1 : e * cnO P i (k / 100) (k % 100) N ≤ 9 * 8 := Int.mul_le_mul he.2 (by omega) h.1 (by omega)
  rw [cK]
  omega
theorem phN_rng {P : Int → Int → Int} {mn : Int} (he : 0 ≤ e ∧ e ≤ 9) (hsn : ∀ k, 0 ≤ k → k < 12000 → 0 ≤ sn k ∧ sn k ≤ 1) : ∀ N : Nat, N ≤ 8 → (∀ j : Nat, j < N → okF mn (P j)) → 0 ≤ phN sn e P N ∧ phN sn e P N ≤ 8760 * N
  | 0, _, _ => by simp [phN]
  | N + 1, hN, ho => by
    have ih := phN_rng he hsn N (by omega) (fun j hj => ho j (by omega))
    have hk := sm_rng (ho N (by omega)) (by decide) (cK_rng (P := P) (N := N) (i := N) (show N ≤ 8 by omega) he hsn)
    rw [sm_cK (ho N (by omega))] at hk
    rw [phN]
    omega
end PH
/-- one round -/
def rdN (Lf : (Int → Int → Int) → Int → Int) (Wf : (Int → Int → Int) → Int → Int → Int) (sn : Int → Int) (e : Int) (n : Nat) (P : Int → Int → Int) : Nat → Bool × (Int → Int → Int)
  | 0 => (false, P)
  | i + 1 => if Lf (rdN Lf Wf sn e n P i).2 i < sm (cK sn e (rdN Lf Wf sn e n P i).2 n i) ((rdN Lf Wf sn e n P i).2 i) then (true, upP (rdN Lf Wf sn e n P i).2 i (Wf (rdN Lf Wf sn e n P i).2 i)) else rdN Lf Wf sn e n P i
def sqP (Lf : (Int → Int → Int) → Int → Int) (Wf : (Int → Int → Int) → Int → Int → Int) (sn : Int → Int) (e : Int) (n : Nat) (P : Int → Int → Int) : Nat → Int → Int → Int
  | 0 => P
  | r + 1 => (rdN Lf Wf sn e n (sqP Lf Wf sn e n P r) n).2
def isR (Lf : (Int → Int → Int) → Int → Int) (Wf : (Int → Int → Int) → Int → Int → Int) (sn : Int → Int) (e : Int) (n : Nat) (P : Int → Int → Int) (R : Nat) : Prop := (rdN Lf Wf sn e n (sqP Lf Wf sn e n P R) n).1 = false ∧ ∀ r, r < R → (rdN Lf Wf sn e n (sqP Lf Wf sn e n P r) n).1 = true
section RD
variable {Lf : (Int → Int → Int) → Int → Int} {Wf : (Int → Int → Int) → Int → Int → Int} {sn : Int → Int} {e mn : Int} {n : Nat}
def okP (mn : Int) (n : Nat) (P : Int → Int → Int) : Prop := ∀ j : Nat, j < n → okF mn (P j)
theorem okP_up {P : Int → Int → Int} {i : Int} {f : Int → Int} (h : okP mn n P) (hf : okF mn f) : okP mn n (upP P i f) := by
  intro j hj
  by_cases q : (j : Int) = i
  · rw [q, upP_s]; exact hf
  · rw [upP_n q]; exact h j hj
theorem rdN_ok (hn : n ≤ 8) (he : 0 ≤ e ∧ e ≤ 9) (hsn : ∀ k, 0 ≤ k → k < 12000 → 0 ≤ sn k ∧ sn k ≤ 1) (hW : ∀ Q i, Lf Q i < 1000000 → okF mn (Wf Q i) ∧ sm (cK sn e Q n i) (Wf Q i) = Lf Q i) {P : Int → Int → Int} (hP : okP mn n P) : ∀ i : Nat, i ≤ n → okP mn n (rdN Lf Wf sn e n P i).2 ∧ phN sn e (rdN Lf Wf sn e n P i).2 n + (if (rdN Lf Wf sn e n P i).1 = true then 1 else 0) ≤ phN sn e P n
  | 0, _ => ⟨hP, by simp [rdN]⟩
  | i + 1, hi => by
    obtain ⟨o, h⟩ := rdN_ok hn he hsn hW hP i (by omega)
    have hk := sm_rng (o i (by omega)) (by decide) (cK_rng (P := (rdN Lf Wf sn e n P i).2) (N := n) (i := i) hn he hsn)
    by_cases q : Lf (rdN Lf Wf sn e n P i).2 i < sm (cK sn e (rdN Lf Wf sn e n P i).2 n i) ((rdN Lf Wf sn e n P i).2 i)
    · have e1 : rdN Lf Wf sn e n P (i + 1) = (true, upP (rdN Lf Wf sn e n P i).2 i (Wf (rdN Lf Wf sn e n P i).2 i)) := by rw [rdN, if_pos q]
      obtain ⟨wf, ws⟩ := hW (rdN Lf Wf sn e n P i).2 i (by omega)
      rw [e1]
      refine ⟨okP_up o wf, ?_⟩
      show phN sn e (upP (rdN Lf Wf sn e n P i).2 i (Wf (rdN Lf Wf sn e n P i).2 i)) n + (if true = true then 1 else 0) ≤ _
      rw [if_pos rfl, phN_up _ i _ n (by omega), ← sm_cK wf, ← sm_cK (o i (by omega)), ws]
      have : (0 : Int) ≤ (if (rdN Lf Wf sn e n P i).1 = true then 1 else 0) := by split <;> omega
      omega
    · have e1 : rdN Lf Wf sn e n P (i + 1) = rdN Lf Wf sn e n P i := by rw [rdN, if_neg q]
      rw [e1]
      exact ⟨o, h⟩
theorem sqP_ok (hn : n ≤ 8) (he : 0 ≤ e ∧ e ≤ 9) (hsn : ∀ k, 0 ≤ k → k < 12000 → 0 ≤ sn k ∧ sn k ≤ 1) (hW : ∀ Q i, Lf Q i < 1000000 → okF mn (Wf Q i) ∧ sm (cK sn e Q n i) (Wf Q i) = Lf Q i) {P : Int → Int → Int} (hP : okP mn n P) : ∀ r : Nat, okP mn n (sqP Lf Wf sn e n P r) ∧ ((∀ q, q < r → (rdN Lf Wf sn e n (sqP Lf Wf sn e n P q) n).1 = true) → phN sn e (sqP Lf Wf sn e n P r) n + r ≤ phN sn e P n)
  | 0 => ⟨hP, fun _ => by simp [sqP]⟩
  | r + 1 => by
    obtain ⟨o, h⟩ := sqP_ok hn he hsn hW hP r
    obtain ⟨o2, h2⟩ := rdN_ok hn he hsn hW o n (Nat.le_refl _)
    refine ⟨o2, fun hq => ?_⟩
    have h' := h (fun q hq' => hq q (by omega))
    rw [if_pos (hq r (by omega))] at h2
    rw [sqP]
    omega
/-- the rounds come to an end -/
theorem isR_ex (hn : n ≤ 8) (he : 0 ≤ e ∧ e ≤ 9) (hsn : ∀ k, 0 ≤ k → k < 12000 → 0 ≤ sn k ∧ sn k ≤ 1) (hW : ∀ Q i, Lf Q i < 1000000 → okF mn (Wf Q i) ∧ sm (cK sn e Q n i) (Wf Q i) = Lf Q i) {P : Int → Int → Int} (hP : okP mn n P) : ∃ R, isR Lf Wf sn e n P R ∧ R ≤ 70080 := by
  have ex : ∃ R, (rdN Lf Wf sn e n (sqP Lf Wf sn e n P R) n).1 = false := by
    refine Classical.byContradiction (fun z => ?_)
    have all : ∀ r, (rdN Lf Wf sn e n (sqP Lf Wf sn e n P r) n).1 = true := by
      intro r
      cases h : (rdN Lf Wf sn e n (sqP Lf Wf sn e n P r) n).1 with
      | true => rfl
      | false => exact absurd ⟨r, h⟩ z
    have a := sqP_ok hn he hsn hW hP ((phN sn e P n).toNat + 1)
    have b := a.2 (fun q _ => all q)
    have c := phN_rng he hsn n hn a.1
    omega
  obtain ⟨R, h1, h2⟩ := pk_least (fun R => (rdN Lf Wf sn e n (sqP Lf Wf sn e n P R) n).1 = false) ex
  have tr : ∀ r, r < R → (rdN Lf Wf sn e n (sqP Lf Wf sn e n P r) n).1 = true := by
    intro r hr
    cases h : (rdN Lf Wf sn e n (sqP Lf Wf sn e n P r) n).1 with
    | true => rfl
    | false => exact absurd h (h2 r hr)
  refine ⟨R, ⟨h1, tr⟩, ?_⟩
  have a := sqP_ok hn he hsn hW hP R
  have b := a.2 tr
  have c := phN_rng he hsn n hn a.1
  have d := phN_rng he hsn n hn hP
  omega
theorem isR_uni {P : Int → Int → Int} {R R' : Nat} (h : isR Lf Wf sn e n P R) (h' : isR Lf Wf sn e n P R') : R = R' := by
  rcases Nat.lt_trichotomy R R' with z | z | z
  · have := h'.2 R z; rw [h.1] at this; exact absurd this (by decide)
  · exact z
  · have := h.2 R' z; rw [h'.1] at this; exact absurd this (by decide)
end RD
/-- how all begin: one after the other -/
def fsN (Lf : Nat → (Int → Int → Int) → Int → Int) (Wf : Nat → (Int → Int → Int) → Int → Int → Int) : Nat → Option (Int → Int → Int)
  | 0 => some (fun _ _ => -1)
  | i + 1 => match fsN Lf Wf i with
    | none => none
    | some Q => if Lf i Q i < 1000000 then some (upP Q i (Wf i Q i)) else none
section PS
variable {nx : Int → Int → Int} {p to bym : Int}
theorem smN_seg {c f g : Int → Int} {a b s : Int} (ha : 0 ≤ a ∧ a ≤ b ∧ b ≤ 120) (hs : 0 ≤ s) (h1 : ∀ m, a ≤ m → m < b → f m = s) (h2 : ∀ m, ¬ (a ≤ m ∧ m < b) → f m = g m) (h3 : ∀ m, m < b → g m = -1) : ∀ M : Nat, smN c f M = smN c g M + csm c a s (if (M : Int) < a then 0 else if (M : Int) < b then ((M : Int) - a).toNat else (b - a).toNat)
  | 0 => by
    simp only [smN]
    have : (if ((0 : Nat) : Int) < a then 0 else if ((0 : Nat) : Int) < b then (((0 : Nat) : Int) - a).toNat else (b - a).toNat) = 0 := by
      split
      · rfl
      · split <;> omega
    rw [this]; rfl
  | M + 1 => by
    have ih := smN_seg (c := c) ha hs h1 h2 h3 M
    rw [smN, smN, ih]
    by_cases q1 : ((M + 1 : Nat) : Int) ≤ a
    · rw [if_pos (show (M : Int) < a by omega), h2 M (by omega)]
      by_cases q2 : ((M + 1 : Nat) : Int) < a
      · rw [if_pos q2]; simp only [csm]; omega
      · have e : (if ((M + 1 : Nat) : Int) < a then 0 else if ((M + 1 : Nat) : Int) < b then (((M + 1 : Nat) : Int) - a).toNat else (b - a).toNat) = 0 := by
          rw [if_neg q2]; split <;> omega
        rw [e]; simp only [csm]; omega
    · rw [if_neg (show ¬ (M : Int) < a by omega), if_neg (show ¬ ((M + 1 : Nat) : Int) < a by omega)]
      by_cases q2 : (M : Int) < b
      · rw [if_pos q2, h1 M (by omega) q2, h3 M q2, if_pos hs, if_neg (by decide)]
        have e : (if ((M + 1 : Nat) : Int) < b then (((M + 1 : Nat) : Int) - a).toNat else (b - a).toNat) = ((M : Int) - a).toNat + 1 := by split <;> omega
        rw [e]
        simp only [csm]
        rw [show a + (((M : Int) - a).toNat : Int) = M by omega]
        omega
      · have e5 : (if ((M + 1 : Nat) : Int) < b then (((M + 1 : Nat) : Int) - a).toNat else (b - a).toNat) = (b - a).toNat := if_neg (by omega)
        rw [if_neg q2, e5, h2 M (by omega)]
        omega
theorem sm_none {c : Int → Int} : ∀ M : Nat, smN c (fun _ => -1) M = 0
  | 0 => rfl
  | M + 1 => by rw [smN, sm_none M]; rfl
/-- what a way costs, minute by minute -/
theorem sm_pth {tw sh c : Int → Int} {lc le : Int → Int} (hp : 1 ≤ p ∧ p ≤ 3) (hcB : cB c) (hB : ∀ k, 0 ≤ k → k < 12000 → tw (k % 100) ≠ 1 → Bst (nxT tw sh p) (csT c p) 5 to bym k (lc k) (le k)) : ∀ (ws : List Int) (k : Int), ndT tw k → lc k < 1000000 → fwy (nxT tw sh p) (csT c p) 5 to lc le ws k → sm c (pth (nxT tw sh p) ws k) = lc k ∧ okF (k / 100) (pth (nxT tw sh p) ws k)
  | [], k, hk, hl, h => by
    have G : Gok (nxT tw sh p) (csT c p) 5 := Gok_T hp hcB
    have b := hB k hk.1 hk.2.1 hk.2.2
    obtain ⟨ws', k', q1, q2, q3, q4⟩ := b.1 hl
    have r := pt_rng G ws' k k' _ hk.1 hk.2.1 q1
    have u := (Bst_uni b (Bst_at G hk.1 hk.2.1 h (by omega))).1
    refine ⟨?_, fun m _ _ => ⟨Or.inl rfl, fun _ => rfl⟩⟩
    have e : pth (nxT tw sh p) [] k = fun _ => -1 := by funext m; rfl
    rw [e, sm, sm_none, u]
  | w :: ws, k, hk, hl, h => by
    have G : Gok (nxT tw sh p) (csT c p) 5 := Gok_T hp hcB
    obtain ⟨h1, h2, h3, h4⟩ := h
    have o := nxT_ok hp hk.1 hk.2.1 h2.2.2.1
    have g := G k w hk.1 hk.2.1 h2.1 h2.2.1 h2.2.2.1
    have hl2 : lc (nxT tw sh p k w) < 1000000 := by have := h2.2.2.2.2; omega
    obtain ⟨i1, i2⟩ := sm_pth hp hcB hB ws (nxT tw sh p k w) ⟨h2.2.2.1, o.1, o.2.2.1⟩ hl2 h4
    have hpl := plen_rng (w := w) hp
    have k01 := hk.1
    have k02 := hk.2.1
    have pm : ∀ m, pth (nxT tw sh p) (w :: ws) k m = if k / 100 ≤ m ∧ m < nxT tw sh p k w / 100 then k % 100 else pth (nxT tw sh p) ws (nxT tw sh p k w) m := fun m => rfl
    -- the tail is nowhere before its first minute
    have tail : ∀ m, m < nxT tw sh p k w / 100 → pth (nxT tw sh p) ws (nxT tw sh p k w) m = -1 := by
      intro m hm
      exact pth_early (nd := ndT tw) G ⟨fun k hk => ⟨hk.1, hk.2.1, hB k hk.1 hk.2.1 hk.2.2⟩, fun k w hk _ _ hn => ⟨hn, (nxT_ok hp hk.1 hk.2.1 hn).1, (nxT_ok hp hk.1 hk.2.1 hn).2.2.1⟩⟩ ws _ m ⟨h2.2.2.1, o.1, o.2.2.1⟩ h4 hm
    have seg := smN_seg (c := c) (f := pth (nxT tw sh p) (w :: ws) k) (g := pth (nxT tw sh p) ws (nxT tw sh p k w)) (a := k / 100) (b := nxT tw sh p k w / 100) (s := k % 100) (by omega) (by omega) (fun m a b => by rw [pm, if_pos ⟨a, b⟩]) (fun m q => by rw [pm, if_neg q]) tail 120
    have e120 : (if ((120 : Nat) : Int) < k / 100 then 0 else if ((120 : Nat) : Int) < nxT tw sh p k w / 100 then (((120 : Nat) : Int) - k / 100).toNat else (nxT tw sh p k w / 100 - k / 100).toNat) = (plen w p).toNat := by
      rw [if_neg (by omega), if_neg (by omega)]; omega
    rw [e120] at seg
    refine ⟨?_, fun m a b => ?_⟩
    · have e2 : sm c (pth (nxT tw sh p) (w :: ws) k) = sm c (pth (nxT tw sh p) ws (nxT tw sh p k w)) + csT c p k w := seg
      rw [e2, i1]
      have := h2.2.2.2.2
      omega
    · rw [pm]
      by_cases q : k / 100 ≤ m ∧ m < nxT tw sh p k w / 100
      · rw [if_pos q]; exact ⟨Or.inr (by omega), fun z => by omega⟩
      · rw [if_neg q]
        have t := i2 m a b
        exact ⟨t.1, fun z => t.2 (by omega)⟩
end PS
