/-! the crowd: the class gathers -/
def csN (sn : Int → Int) (e : Int) (n : Nat) (F : Int → Int → Int) : Nat → Int
  | 0 => 0
  | i + 1 => csN sn e n F i + sm (cK sn e F n i) (F i)
def suN (sn : Int → Int) (F : Int → Int → Int) : Nat → Int
  | 0 => 0
  | i + 1 => suN sn F i + sm sn (F i)
def gtN (sn : Int → Int) (e : Int) (n : Nat) (F : Int → Int → Int) : Nat → Int
  | 0 => 0
  | i + 1 => if gtN sn e n F i < sm (cK sn e F n i) (F i) then sm (cK sn e F n i) (F i) else gtN sn e n F i
theorem smN_congr {c c' f : Int → Int} {mn : Int} (hf : okF mn f) (h : ∀ k, 0 ≤ k → k < 12000 → c k = c' k) : ∀ M : Nat, M ≤ 120 → smN c f M = smN c' f M
  | 0, _ => rfl
  | M + 1, hM => by
    have fm := (hf M (by omega) (by omega)).1
    rw [smN, smN, smN_congr hf h M (by omega)]
    by_cases q : 0 ≤ f M
    · rw [if_pos q, if_pos q, h _ (by omega) (by omega)]
    · rw [if_neg q, if_neg q]
theorem sm_congr {c c' f : Int → Int} {mn : Int} (hf : okF mn f) (h : ∀ k, 0 ≤ k → k < 12000 → c k = c' k) : sm c f = sm c' f := smN_congr hf h 120 (Nat.le_refl _)
theorem gtN_rng {sn : Int → Int} {e mn : Int} {n : Nat} {F : Int → Int → Int} (hn : n ≤ 8) (he : 0 ≤ e ∧ e ≤ 9) (hsn : ∀ k, 0 ≤ k → k < 12000 → 0 ≤ sn k ∧ sn k ≤ 1) (hF : okP mn n F) : ∀ i : Nat, i ≤ n → (0 ≤ csN sn e n F i ∧ csN sn e n F i ≤ 8760 * i) ∧ (0 ≤ suN sn F i ∧ suN sn F i ≤ 120 * i) ∧ (0 ≤ gtN sn e n F i ∧ gtN sn e n F i ≤ 8760)
  | 0, _ => by simp [csN, suN, gtN]
  | i + 1, hi => by
    have ih := gtN_rng hn he hsn hF i (by omega)
    have a := sm_rng (hF i (by omega)) (by decide) (cK_rng (P := F) (N := n) (i := i) hn he hsn)
    have b := sm_rng (hF i (by omega)) (by decide) hsn
    rw [csN, suN, gtN]
    split <;> omega
section GA
variable {pl : Pool} {tw : Int → Int} {vf : Int → Int → Int → Int32} {sl : Int} {kd hg : Int → Int} {wks suns : Nat → Option Nat} {shw : Nat → Int64} {ex0 nt : Int → Int} {ww sw gw : Nat → Int64} {op arg : Nat → Int32}
theorem cost_cK (C : CS pl tw vf sl kd hg wks shw ex0 nt ww sw gw) {d : Int} (hd : 0 ≤ d ∧ d < 4) {dw : Nat → Int64} (hdw : dwR shw dw d) {ex : Int → Int} {e i : Int} {N : Nat} {Q : Int → Int → Int} (hx : ∀ k, 0 ≤ k → k < 12000 → ex k = e * cnO Q i (k / 100) (k % 100) N) : ∀ k, 0 ≤ k → k < 12000 → costF true 1 0 dw ex k = cK (snC tw vf d) e Q N i k := by
  intro k a b
  have h := CS_dk C hd hdw a b
  rw [costF, if_pos (show true = true ∧ 0 ≤ k ∧ k < 12000 from ⟨rfl, a, b⟩), cK, hx k a b]
  congr 1
  rcases snC_01 tw vf d k with ⟨x, y⟩ | ⟨x, y⟩
  · rw [x, if_pos (h.mpr y)]
  · rw [x, if_neg (fun z => y (h.mp z))]
theorem cost_sn (C : CS pl tw vf sl kd hg wks shw ex0 nt ww sw gw) {d : Int} (hd : 0 ≤ d ∧ d < 4) {dw : Nat → Int64} (hdw : dwR shw dw d) {ex : Int → Int} : ∀ k, 0 ≤ k → k < 12000 → costF false 1 0 dw ex k = snC tw vf d k := by
  intro k a b
  have h := CS_dk C hd hdw a b
  rw [costF, if_neg (show ¬ (false = true ∧ 0 ≤ k ∧ k < 12000) from fun z => absurd z.1 (by decide)), Int.add_zero]
  rcases snC_01 tw vf d k with ⟨x, y⟩ | ⟨x, y⟩
  · rw [x, if_pos (h.mpr y)]
  · rw [x, if_neg (fun z => y (h.mp z))]
theorem wC_agr {sh c c' : Int → Int} {p to bym k : Int} (hp : 1 ≤ p ∧ p ≤ 3) (hcB : cB c) (hcB' : cB c') (hc : ∀ k, 0 ≤ k → k < 12000 → c k = c' k) (hk : ndT tw k) : (bC (nxT tw sh p) (csT c p) 5 to bym k).1 = (bC (nxT tw sh p) (csT c' p) 5 to bym k).1 ∧ ((bC (nxT tw sh p) (csT c p) 5 to bym k).1 < 1000000 → wC (nxT tw sh p) (csT c p) 5 to bym k = wC (nxT tw sh p) (csT c' p) 5 to bym k) := by
  have G := Gok_T (tw := tw) (sh := sh) (nw := 5) hp hcB
  have hB : ∀ k, 0 ≤ k → k < 12000 → tw (k % 100) ≠ 1 → Bst (nxT tw sh p) (csT c p) 5 to bym k (bC (nxT tw sh p) (csT c p) 5 to bym k).1 (bC (nxT tw sh p) (csT c p) 5 to bym k).2 := fun k a b _ => bC_ok G a b
  refine ⟨(bG_eq hp (fun _ _ _ => rfl) hcB hcB' hc hk.1 hk.2.1 (hB k hk.1 hk.2.1 hk.2.2)).1, fun hl => ?_⟩
  obtain ⟨ws, hw, -⟩ := fwy_ex (nd := ndT tw) (lc := fun k => (bC (nxT tw sh p) (csT c p) 5 to bym k).1) (le := fun k => (bC (nxT tw sh p) (csT c p) 5 to bym k).2) G ⟨fun k hk => ⟨hk.1, hk.2.1, hB k hk.1 hk.2.1 hk.2.2⟩, fun k w hk _ _ hn => ⟨hn, (nxT_ok hp hk.1 hk.2.1 hn).1, (nxT_ok hp hk.1 hk.2.1 hn).2.2.1⟩⟩ 120 k hk hl (by have := hk.1; omega)
  rw [wC_eq hw, (wG_eq (lc := fun k => (bC (nxT tw sh p) (csT c p) 5 to bym k).1) (le := fun k => (bC (nxT tw sh p) (csT c p) 5 to bym k).2) hp (fun _ _ _ => rfl) hcB hcB' hc hB hk hl hw).1]
theorem fsN_ok {d p to bym k0 e : Int} (he : 0 ≤ e ∧ e ≤ 9) (hp : 1 ≤ p ∧ p ≤ 3) (hk : ndT tw k0) : ∀ (i : Nat) (Q : Int → Int → Int), i ≤ 8 → fsN (lfK tw vf d p to bym k0 e) (wfK tw vf d p to bym k0 e) i = some Q → okP (k0 / 100) i Q
  | 0, Q, _, h => fun j hj => absurd hj (Nat.not_lt_zero _)
  | i + 1, Q, hi, h => by
    rw [fsN] at h
    cases hq : fsN (lfK tw vf d p to bym k0 e) (wfK tw vf d p to bym k0 e) i with
    | none => rw [hq] at h; exact absurd h (by simp)
    | some Q' =>
      rw [hq] at h
      dsimp only at h
      have ih := fsN_ok he hp hk i Q' (by omega) hq
      by_cases l : lfK tw vf d p to bym k0 e i Q' i < 1000000
      · rw [if_pos l] at h
        cases h
        intro j hj
        by_cases q : (j : Int) = i
        · rw [q, upP_s]; exact (wfK_ok (by omega) he hp hk Q' i l).1
        · rw [upP_n q]; exact ih j (by omega)
      · rw [if_neg l] at h; exact absurd h (by simp)
theorem fsN_none {Lf : Nat → (Int → Int → Int) → Int → Int} {Wf : Nat → (Int → Int → Int) → Int → Int → Int} {i : Nat} (h : fsN Lf Wf i = none) : ∀ j : Nat, fsN Lf Wf (i + j) = none
  | 0 => h
  | j + 1 => by
    show (match fsN Lf Wf (i + j) with | none => none | some Q => if Lf (i + j) Q ((i + j : Nat) : Int) < 1000000 then some (upP Q ((i + j : Nat) : Int) (Wf (i + j) Q ((i + j : Nat) : Int))) else none) = none
    rw [fsN_none h j]
/-- crowding and places beside the members -/
def rlX (e : Int) (ex wh : Int → Int) (Q : Int → Int → Int) (N : Nat) : Prop := (∀ k, 0 ≤ k → k < 12000 → ex k = e * cnO Q (-1) (k / 100) (k % 100) N) ∧ ∀ j : Nat, j < N → ∀ m, 0 ≤ m → m < 120 → wh (120 * j + m) = Q j m
theorem ex_rng {e i : Int} {N : Nat} {Q : Int → Int → Int} {ex : Int → Int} (he : 0 ≤ e ∧ e ≤ 9) (hN : N ≤ 8) (h : ∀ k, 0 ≤ k → k < 12000 → ex k = e * cnO Q i (k / 100) (k % 100) N) : ∀ k, 0 ≤ k → k < 12000 → 0 ≤ ex k ∧ ex k ≤ 900 := by
  intro k a b
  have c := cnO_rng Q i (k / 100) (k % 100) N
  have m0 : 0 ≤ e * cnO Q i (k / 100) (k % 100) N := Int.mul_nonneg he.1 c.1
  have m1 : e * cnO Q i (k / 100) (k % 100) N ≤ 9 * 8 := Int.mul_le_mul he.2 (by omega) c.1 (by omega)
  rw [h k a b]
  omega
theorem rl_out {e : Int} {ex ex1 wh : Int → Int} {Q : Int → Int → Int} {N j : Nat} (hj : j < N) (h : rlX e ex wh Q N) (hx : ∀ k, 0 ≤ k → k < 12000 → ex1 k = ex k + (if Q j (k / 100) = k % 100 then -e else 0)) : ∀ k, 0 ≤ k → k < 12000 → ex1 k = e * cnO Q j (k / 100) (k % 100) N := by
  intro k a b
  rw [hx k a b, h.1 k a b, cnO_one (i := j), Int.mul_add]
  by_cases q : Q j (k / 100) = k % 100
  · rw [if_pos q, if_pos ⟨hj, q⟩]; omega
  · rw [if_neg q, if_neg (fun z => q z.2)]; omega
theorem rl_in {e : Int} {ex1 ex2 wh wh2 f : Int → Int} {Q : Int → Int → Int} {N j : Nat} (hj : j < N) (h1 : ∀ k, 0 ≤ k → k < 12000 → ex1 k = e * cnO Q j (k / 100) (k % 100) N) (hw : ∀ i : Nat, i < N → i ≠ j → ∀ m, 0 ≤ m → m < 120 → wh (120 * i + m) = Q i m) (hf : ∀ m, 0 ≤ m → m < 120 → wh2 (120 * j + m) = f m) (hw2 : ∀ i, 0 ≤ i → ¬ (120 * (j : Int) ≤ i ∧ i < 120 * (j : Int) + 120) → wh2 i = wh i) (hx : ∀ k, 0 ≤ k → k < 12000 → ex2 k = ex1 k + (if f (k / 100) = k % 100 then e else 0)) : rlX e ex2 wh2 (upP Q j f) N := by
  refine ⟨fun k a b => ?_, fun i hi m a b => ?_⟩
  · rw [hx k a b, h1 k a b, cnO_one (i := j), cnO_up, upP_s, Int.mul_add]
    by_cases q : f (k / 100) = k % 100
    · rw [if_pos q, if_pos ⟨hj, q⟩]; omega
    · rw [if_neg q, if_neg (fun z => q z.2)]; omega
  · by_cases q : i = j
    · subst q; rw [upP_s]; exact hf m a b
    · rw [upP_n (by omega), hw2 _ (by omega) (by omega)]
      exact hw i hi q m a b
theorem rl_cong {e : Int} {ex wh : Int → Int} {Q : Int → Int → Int} {N j : Nat} {f g : Int → Int} (hfg : ∀ m, 0 ≤ m → m < 120 → f m = g m) (h : rlX e ex wh (upP Q j f) N) : rlX e ex wh (upP Q j g) N := by
  refine ⟨fun k a b => ?_, fun i hi m a b => ?_⟩
  · rw [h.1 k a b]
    by_cases hj : j < N
    · rw [cnO_one (i := j), cnO_one (P := upP Q j g) (i := j), cnO_up, cnO_up, upP_s, upP_s, hfg (k / 100) (by omega) (by omega)]
    · congr 1
      have gen : ∀ M : Nat, M ≤ N → cnO (upP Q j f) (-1) (k / 100) (k % 100) M = cnO (upP Q j g) (-1) (k / 100) (k % 100) M := by
        intro M
        induction M with
        | zero => intro _; rfl
        | succ M ih =>
          intro hM
          rw [cnO, cnO, ih (by omega), upP_n (by omega), upP_n (by omega)]
      exact gen N (Nat.le_refl _)
  · rw [h.2 i hi m a b]
    by_cases q : (i : Int) = j
    · rw [q, upP_s, upP_s, hfg m a b]
    · rw [upP_n q, upP_n q]
theorem p_addUpX (C : CS pl tw vf sl kd hg wks shw ex0 nt ww sw gw) {d : Int} (hd : 0 ≤ d ∧ d < 4) {dw : Nat → Int64} (hdw : dwR shw dw d) {e mn : Int} {n : Nat} (hn : n ≤ 8) (he : 0 ≤ e ∧ e ≤ 9) {F : Int → Int → Int} (hF : okP mn n F) {ex wh : Int → Int} (hr : rlX e ex wh F n) {x1 x2 x3 : Int32} {post : Int32 → Int32 → Int32 → (Nat → Int32) → Prop} (h : ∀ ex' : Int → Int, (∀ k, 0 ≤ k → k < 12000 → 0 ≤ ex' k ∧ ex' k ≤ 900) → post (zi (csN (snC tw vf d) e n F n)) (zi (suN (snC tw vf d) F n)) (zi (gtN (snC tw vf d) e n F n)) (zA ex')) : wp_X1_addUp (zi n) (zi e) (zA wh) dw x1 x2 x3 (zA ex) post := by
  simp only [wp_X1_addUp]
  refine lp_inv (fun i st => ∃ ex' : Int → Int, rlX e ex' wh F n ∧ st = (zi (csN (snC tw vf d) e n F i), zi (suN (snC tw vf d) F i), zi (gtN (snC tw vf d) e n F i), zA ex', zi i)) n ?_ ?_ 0 (Nat.zero_le _) ⟨ex, hr, rfl⟩
  · rintro st ⟨ex', hr', rfl⟩ kb
    simp only [wp_X1_addUp_L17]
    rw [zi_le (by omega)]
    exact ⟨fun _ => h ex' (ex_rng he hn hr'.1), fun z => absurd (Int.le_refl _) z⟩
  · rintro i hi st ⟨ex', hr', rfl⟩ kb hkb
    have hni : ((i + 1 : Nat) : Int) = (i : Int) + 1 := by omega
    have rg := gtN_rng hn he (snC_01' (tw := tw) (vf := vf) d) hF i (by omega)
    have hk := sm_rng (hF i hi) (by decide) (cK_rng (P := F) (N := n) (i := i) hn he (snC_01' (tw := tw) (vf := vf) d))
    simp only [wp_X1_addUp_L17]
    rw [zi_le (by omega), zi_neg]
    refine ⟨fun z => by omega, fun _ => ?_⟩
    refine p_crowdOut (f := F i) (mn := mn) (by omega) (hr'.2 i hi) (hF i hi) (fun ex1 hx1 => ?_)
    have ho := rl_out hi hr' hx1
    rw [show (0 : Int32) = zi 0 from rfl]
    refine p_costOfX (eb := true) (b := 0) (f := F i) (mn := mn) rfl (by omega) (hr'.2 i hi) (hF i hi) ?_
    rw [sm_congr (hF i hi) (cost_cK C hd hdw ho)]
    refine p_crowdOut (f := F i) (mn := mn) (by omega) (hr'.2 i hi) (hF i hi) (fun ex2 hx2 => ?_)
    have hr2 : rlX e ex2 wh F n := by
      have := rl_in (f := F i) (wh2 := wh) (wh := wh) hi ho (fun j hj _ => hr'.2 j hj) (hr'.2 i hi) (fun _ _ _ => rfl) hx2
      have eF : upP F i (F i) = F := by
        funext j
        by_cases q : j = i
        · rw [q, upP_s]
        · rw [upP_n q]
      rwa [eF] at this
    simp only [forall_eq]
    rw [show (1 : Int32) = zi 1 from rfl]
    refine p_costOfX (eb := false) (b := 1) (f := F i) (mn := mn) rfl (by omega) (hr'.2 i hi) (hF i hi) ?_
    rw [sm_congr (hF i hi) (cost_sn C hd hdw)]
    have eg : (if zi (gtN (snC tw vf d) e n F i) < zi (sm (cK (snC tw vf d) e F n i) (F i)) then zi (sm (cK (snC tw vf d) e F n i) (F i)) else zi (gtN (snC tw vf d) e n F i)) = zi (gtN (snC tw vf d) e n F (i + 1)) := by
      rw [gtN]
      by_cases q : gtN (snC tw vf d) e n F i < sm (cK (snC tw vf d) e F n i) (F i)
      · rw [if_pos q, if_pos (by rw [zi_lt (by omega)]; exact q)]
      · rw [if_neg q, if_neg (by rw [zi_lt (by omega)]; exact q)]
    rw [eg]
    simp only [zi_add]
    refine hkb _ ⟨ex2, hr2, ?_⟩
    rw [csN, suN, hni]
theorem p_gather (C : CS pl tw vf sl kd hg wks shw ex0 nt ww sw gw) {wk d m fr to by' e n' : Int} (t : tripP tw wk d m fr to) (hby : 0 ≤ by' ∧ by' < 120) (he : 0 ≤ e ∧ e ≤ 9) (hn' : 1 ≤ n' ∧ n' ≤ 8) {dw : Nat → Int64} (hdw : dwR shw dw d) {c1 c2 c3 c4 c5 c6 c7 x1 x2 x3 x4 x5 x6 : Int32} {lw : Nat → Int64} {eb : Bool} {ex : Int → Int} {r1 l1 p1 w1 wh0 : Nat → Int32} {post : Int32 → Int32 → Int32 → Int32 → Int32 → Int32 → Int32 → Int32 → (Nat → Int32) → Bool → Int32 → Int32 → Int32 → Int32 → Int32 → (Nat → Int64) → (Nat → Int32) → (Nat → Int32) → Int32 → (Nat → Int32) → (Nat → Int32) → (Nat → Int32) → Prop}
    (h1 : ∀ Q R, fsN (lfK tw vf d (tw (383 + 7 * wk)) to by' (100 * m + fr) e) (wfK tw vf d (tw (383 + 7 * wk)) to by' (100 * m + fr) e) n'.toNat = some Q → isR (lfK tw vf d (tw (383 + 7 * wk)) to by' (100 * m + fr) e n'.toNat) (wfK tw vf d (tw (383 + 7 * wk)) to by' (100 * m + fr) e n'.toNat) (snC tw vf d) e n'.toNat Q R → ∀ ex' : Int → Int, (∀ k, 0 ≤ k → k < 12000 → 0 ≤ ex' k ∧ ex' k ≤ 900) → ∀ (u1 u2 u3 y1 y2 y3 y4 y5 y6 : Int32) (lw' : Nat → Int64) (r2 l2 p2 w2 wh2 : Nat → Int32), post 1 u1 u2 u3 (zi (R + 1)) (zi (csN (snC tw vf d) e n'.toNat (sqP (lfK tw vf d (tw (383 + 7 * wk)) to by' (100 * m + fr) e n'.toNat) (wfK tw vf d (tw (383 + 7 * wk)) to by' (100 * m + fr) e n'.toNat) (snC tw vf d) e n'.toNat Q (R + 1)) n'.toNat)) (zi (suN (snC tw vf d) (sqP (lfK tw vf d (tw (383 + 7 * wk)) to by' (100 * m + fr) e n'.toNat) (wfK tw vf d (tw (383 + 7 * wk)) to by' (100 * m + fr) e n'.toNat) (snC tw vf d) e n'.toNat Q (R + 1)) n'.toNat)) (zi (gtN (snC tw vf d) e n'.toNat (sqP (lfK tw vf d (tw (383 + 7 * wk)) to by' (100 * m + fr) e n'.toNat) (wfK tw vf d (tw (383 + 7 * wk)) to by' (100 * m + fr) e n'.toNat) (snC tw vf d) e n'.toNat Q (R + 1)) n'.toNat)) (zA ex') false y1 y2 y3 y4 y5 lw' r2 l2 y6 p2 w2 wh2)
    (h0 : fsN (lfK tw vf d (tw (383 + 7 * wk)) to by' (100 * m + fr) e) (wfK tw vf d (tw (383 + 7 * wk)) to by' (100 * m + fr) e) n'.toNat = none → ∀ ex' : Int → Int, (∀ k, 0 ≤ k → k < 12000 → 0 ≤ ex' k ∧ ex' k ≤ 900) → ∀ (u1 u2 u3 u4 u5 u6 u7 y1 y2 y3 y4 y5 y6 : Int32) (lw' : Nat → Int64) (r2 l2 p2 w2 wh2 : Nat → Int32), post 0 u1 u2 u3 u4 u5 u6 u7 (zA ex') false y1 y2 y3 y4 y5 lw' r2 l2 y6 p2 w2 wh2) :
    wp_X1_gather (zi d) (zi m) (zi fr) (zi to) 1 0 1 dw (zA nt) (zi sl) ww sw gw (zi (tw (383 + 7 * wk))) (zi (tw (384 + 7 * wk))) (zi (tw (385 + 7 * wk))) c1 c2 c3 c4 c5 c6 c7 (zA ex) eb x1 x2 x3 x4 x5 lw r1 l1 x6 p1 w1 wh0 (zi by') (zi n') (zi e) post := by
  have t' := t
  obtain ⟨t1', t2', t3', t4', t5'⟩ := t'
  have wo := C.1.2.1 wk t1'.1.1 t1'.1.2 t1'.2
  obtain ⟨n, rfl⟩ := Int.eq_ofNat_of_zero_le (show 0 ≤ n' by omega)
  simp only [Int.toNat_natCast] at h1 h0
  have hk : ndT tw (100 * m + fr) := ⟨by omega, by omega, by rw [show (100 * m + fr) % 100 = fr by omega]; exact t4'.2⟩
  have km : (100 * m + fr) / 100 = m := by omega
  have hn8 : n ≤ 8 := by omega
  have hsn := snC_01' (tw := tw) (vf := vf) d
  obtain ⟨wh, rfl, -⟩ := zA_ex wh0
  have hfs : ∀ i Q, i ≤ 8 → fsN (lfK tw vf d (tw (383 + 7 * wk)) to by' (100 * m + fr) e) (wfK tw vf d (tw (383 + 7 * wk)) to by' (100 * m + fr) e) i = some Q → okP m i Q := fun i Q hi hq => by have := fsN_ok he wo.1 hk i Q hi hq; rwa [km] at this
  have hWn : ∀ (N : Nat) (Q : Int → Int → Int) (i : Int), N ≤ 8 → lfK tw vf d (tw (383 + 7 * wk)) to by' (100 * m + fr) e N Q i < 1000000 → okF m (wfK tw vf d (tw (383 + 7 * wk)) to by' (100 * m + fr) e N Q i) ∧ sm (cK (snC tw vf d) e Q N i) (wfK tw vf d (tw (383 + 7 * wk)) to by' (100 * m + fr) e N Q i) = lfK tw vf d (tw (383 + 7 * wk)) to by' (100 * m + fr) e N Q i := fun N Q i hN hl => by have := wfK_ok hN he wo.1 hk Q i hl; rwa [km] at this
  -- what the choice of a member is
  have agr : ∀ (N : Nat) (Q : Int → Int → Int) (i : Int) (ex1 : Int → Int), N ≤ 8 → (∀ k, 0 ≤ k → k < 12000 → ex1 k = e * cnO Q i (k / 100) (k % 100) N) → (bC (nxT tw (shC tw vf d) (tw (383 + 7 * wk))) (csT (costF true 1 0 dw ex1) (tw (383 + 7 * wk))) 5 to by' (100 * m + fr)).1 = lfK tw vf d (tw (383 + 7 * wk)) to by' (100 * m + fr) e N Q i ∧ ((bC (nxT tw (shC tw vf d) (tw (383 + 7 * wk))) (csT (costF true 1 0 dw ex1) (tw (383 + 7 * wk))) 5 to by' (100 * m + fr)).1 < 1000000 → ∀ j, pth (nxT tw (shC tw vf d) (tw (383 + 7 * wk))) (wC (nxT tw (shC tw vf d) (tw (383 + 7 * wk))) (csT (costF true 1 0 dw ex1) (tw (383 + 7 * wk))) 5 to by' (100 * m + fr)) (100 * m + fr) j = wfK tw vf d (tw (383 + 7 * wk)) to by' (100 * m + fr) e N Q i j) := by
    intro N Q i ex1 hN hx
    have hcB : cB (costF true 1 0 dw ex1) := cB_cost (by omega) (by omega) (ex_rng he hN hx)
    have w := wC_agr (sh := shC tw vf d) (to := to) (bym := by') wo.1 hcB (cK_cB (tw := tw) (vf := vf) (d := d) (i := i) (Q := Q) hN he) (cost_cK C t2' hdw hx) hk
    exact ⟨w.1, fun hl j => by rw [wfK, w.2 hl]⟩
  have e8 : (if (0 : Int32) < (if (8 : Int32) < zi (n : Int) then 8 else zi (n : Int)) then (if (8 : Int32) < zi (n : Int) then 8 else zi (n : Int)) else 0) = zi (n : Int) := by
    have q1 : ¬ (8 : Int32) < zi (n : Int) := by rw [show (8 : Int32) = zi 8 from rfl, zi_lt (by omega)]; omega
    have q2 : (0 : Int32) < zi (n : Int) := by rw [show (0 : Int32) = zi 0 from rfl, zi_lt (by omega)]; omega
    rw [if_neg q1, if_pos q2]
  simp only [wp_X1_gather]
  rw [e8]
  simp only [forall_eq]
  rw [show (0 : Int32) = zi 0 from rfl]
  refine p_fillI (by decide) ?_
  -- it can't be
  have fail : ∀ (ex' : Int → Int) (u1 u2 u3 u4 u5 u6 u7 y1 y2 y3 y4 y5 y6 : Int32) (bb : Bool) (lw' : Nat → Int64) (r2 l2 p2 w2 wh2 : Nat → Int32), (∀ k, 0 ≤ k → k < 12000 → 0 ≤ ex' k ∧ ex' k ≤ 900) → fsN (lfK tw vf d (tw (383 + 7 * wk)) to by' (100 * m + fr) e) (wfK tw vf d (tw (383 + 7 * wk)) to by' (100 * m + fr) e) n = none → wp_X1_gather_b79 (zi d) (zi m) (zi fr) (zi to) 1 0 1 dw (zA nt) (zi sl) ww sw gw (zi (tw (383 + 7 * wk))) (zi (tw (384 + 7 * wk))) (zi (tw (385 + 7 * wk))) post u1 u2 u3 u4 u5 u6 u7 (zA ex') bb y1 y2 y3 y4 y5 lw' r2 l2 y6 p2 w2 wh2 0 := by
    intro ex' u1 u2 u3 u4 u5 u6 u7 y1 y2 y3 y4 y5 y6 bb lw' r2 l2 p2 w2 wh2 hx hq
    refine ⟨1, ?_⟩
    show wp_X1_gather_L91 _ _ _ _ _ _ _ _ _ _ _ _ _ _ _ _ _ _ _ _
    simp only [wp_X1_gather_L91, wp_X1_gather_b183]
    exact ⟨fun z => absurd z (by decide), fun _ => ⟨fun _ => ⟨fun _ => ⟨Or.inl rfl, h0 hq ex' hx ..⟩, fun z => absurd trivial z⟩, fun z => absurd trivial z⟩⟩
  refine lp_inv (fun i st => ∃ (ex' wh' : Int → Int) (u4 u5 u6 u7 y1 y2 y3 y4 y5 y6 : Int32) (lw' : Nat → Int64) (r2 l2 p2 w2 : Nat → Int32), (∀ k, 0 ≤ k → k < 12000 → 0 ≤ ex' k ∧ ex' k ≤ 900) ∧ ((∃ Q, fsN (lfK tw vf d (tw (383 + 7 * wk)) to by' (100 * m + fr) e) (wfK tw vf d (tw (383 + 7 * wk)) to by' (100 * m + fr) e) i = some Q ∧ rlX e ex' wh' Q i ∧ st = (zi (n : Int), zi e, zi by', u4, u5, u6, u7, zA ex', true, y1, y2, y3, y4, y5, lw', r2, l2, y6, p2, w2, zA wh', 1, zi i)) ∨ (fsN (lfK tw vf d (tw (383 + 7 * wk)) to by' (100 * m + fr) e) (wfK tw vf d (tw (383 + 7 * wk)) to by' (100 * m + fr) e) i = none ∧ st = (zi (n : Int), zi e, zi by', u4, u5, u6, u7, zA ex', true, y1, y2, y3, y4, y5, lw', r2, l2, y6, p2, w2, zA wh', 0, zi i)))) n ?_ ?_ 0 (Nat.zero_le _) ⟨flA ex 0 12000 0, wh, c4, c5, c6, c7, x1, x2, x3, x4, x5, x6, lw, r1, l1, p1, w1, fun k a b => by rw [flA_in (by omega)]; omega, Or.inl ⟨fun _ _ => -1, rfl, ⟨fun k a b => by rw [flA_in (by omega)]; simp [cnO], fun j hj => absurd hj (Nat.not_lt_zero _)⟩, rfl⟩⟩
  · rintro st ⟨ex', wh', u4, u5, u6, u7, y1, y2, y3, y4, y5, y6, lw', r2, l2, p2, w2, hx, ⟨Q, hQ, hr, rfl⟩ | ⟨hQ, rfl⟩⟩ kb
    case inr =>
      simp only [wp_X1_gather_L49]
      rw [zi_le (by omega)]
      exact ⟨fun _ => fail _ _ _ _ _ _ _ _ _ _ _ _ _ _ _ _ _ _ _ _ _ hx hQ, fun z => absurd (Int.le_refl _) z⟩
    simp only [wp_X1_gather_L49]
    rw [zi_le (by omega)]
    refine ⟨fun _ => ?_, fun z => absurd (Int.le_refl _) z⟩
    have hP := hfs n Q hn8 hQ
    obtain ⟨R, hR, hRb⟩ := isR_ex (mn := m) hn8 he hsn (fun Q i => hWn n Q i hn8) hP
    simp only [wp_X1_gather_b79]
    refine lp_inv (fun r st => ∃ (ex' wh' : Int → Int) (u5 u6 u7 y1 y2 y3 y4 y5 y6 : Int32) (lw' : Nat → Int64) (r2 l2 p2 w2 : Nat → Int32), rlX e ex' wh' (sqP (lfK tw vf d (tw (383 + 7 * wk)) to by' (100 * m + fr) e n) (wfK tw vf d (tw (383 + 7 * wk)) to by' (100 * m + fr) e n) (snC tw vf d) e n Q r) n ∧ st = (zi (n : Int), zi e, zi by', zi r, u5, u6, u7, zA ex', true, y1, y2, y3, y4, y5, lw', r2, l2, y6, p2, w2, zA wh', 1, (if r ≤ R then 1 else 0), zi r)) (R + 1) ?_ ?_ 0 (Nat.zero_le _) ⟨ex', wh', u5, u6, u7, y1, y2, y3, y4, y5, y6, lw', r2, l2, p2, w2, hr, by rw [if_pos (Nat.zero_le _)]; rfl⟩
    · rintro st ⟨ex', wh', u5, u6, u7, y1, y2, y3, y4, y5, y6, lw', r2, l2, p2, w2, hr', rfl⟩ kb2
      have oF := (sqP_ok (mn := m) hn8 he hsn (fun Q i => hWn n Q i hn8) hP (R + 1)).1
      rw [if_neg (by omega)]
      simp only [wp_X1_gather_L91]
      have fin : wp_X1_gather_b183 (zi d) (zi m) (zi fr) (zi to) 1 0 1 dw (zA nt) (zi sl) ww sw gw (zi (tw (383 + 7 * wk))) (zi (tw (384 + 7 * wk))) (zi (tw (385 + 7 * wk))) post (zi (n : Int)) (zi e) (zi by') (zi ((R + 1 : Nat) : Int)) u5 u6 u7 (zA ex') true y1 y2 y3 y4 y5 lw' r2 l2 y6 p2 w2 (zA wh') 1 := by
        simp only [wp_X1_gather_b183]
        refine ⟨fun z => absurd z (by decide), fun _ => ?_⟩
        refine p_addUpX (mn := m) C t2' hdw hn8 he oF hr' (fun ex2 hx2 => ⟨Or.inr rfl, ?_⟩)
        exact h1 Q R hQ hR ex2 hx2 ..
      exact ⟨fun _ => fin, fun _ => ⟨fun _ => fin, fun z => absurd trivial z⟩⟩
    · rintro r hr2 st ⟨ex', wh', u5, u6, u7, y1, y2, y3, y4, y5, y6, lw', r2, l2, p2, w2, hr', rfl⟩ kb2 hkb2
      have hnr : ((r + 1 : Nat) : Int) = (r : Int) + 1 := by omega
      have oS := (sqP_ok (mn := m) hn8 he hsn (fun Q i => hWn n Q i hn8) hP r).1
      rw [if_pos (by omega)]
      simp only [wp_X1_gather_L91]
      rw [show (1000000 : Int32) = zi 1000000 from rfl, zi_le (by omega)]
      refine ⟨fun z => by omega, fun _ => ⟨fun z => absurd z (by decide), fun _ => ?_⟩⟩
      generalize hS : sqP (lfK tw vf d (tw (383 + 7 * wk)) to by' (100 * m + fr) e n) (wfK tw vf d (tw (383 + 7 * wk)) to by' (100 * m + fr) e n) (snC tw vf d) e n Q r = S at *
      refine lp_inv (fun j st => ∃ (ex' wh' : Int → Int) (y1 y2 y3 y4 y5 y6 : Int32) (lw' : Nat → Int64) (r2 l2 p2 w2 : Nat → Int32), rlX e ex' wh' (rdN (lfK tw vf d (tw (383 + 7 * wk)) to by' (100 * m + fr) e n) (wfK tw vf d (tw (383 + 7 * wk)) to by' (100 * m + fr) e n) (snC tw vf d) e n S j).2 n ∧ st = (zi (n : Int), zi e, zi by', zi r, u5, u6, u7, zA ex', true, y1, y2, y3, y4, y5, lw', r2, l2, y6, p2, w2, zA wh', 1, (if (rdN (lfK tw vf d (tw (383 + 7 * wk)) to by' (100 * m + fr) e n) (wfK tw vf d (tw (383 + 7 * wk)) to by' (100 * m + fr) e n) (snC tw vf d) e n S j).1 = true then 1 else 0), zi r, zi j)) n ?_ ?_ 0 (Nat.zero_le _) ⟨ex', wh', y1, y2, y3, y4, y5, y6, lw', r2, l2, p2, w2, hr', rfl⟩
      · rintro st ⟨ex', wh', y1, y2, y3, y4, y5, y6, lw', r2, l2, p2, w2, hr', rfl⟩ kb3
        simp only [wp_X1_gather_L109]
        rw [zi_le (by omega)]
        refine ⟨fun _ => ?_, fun z => absurd (Int.le_refl _) z⟩
        simp only [forall_eq, zi_lit, zi_add]
        have es : sqP (lfK tw vf d (tw (383 + 7 * wk)) to by' (100 * m + fr) e n) (wfK tw vf d (tw (383 + 7 * wk)) to by' (100 * m + fr) e n) (snC tw vf d) e n Q (r + 1) = (rdN (lfK tw vf d (tw (383 + 7 * wk)) to by' (100 * m + fr) e n) (wfK tw vf d (tw (383 + 7 * wk)) to by' (100 * m + fr) e n) (snC tw vf d) e n S n).2 := by rw [sqP, hS]
        refine hkb2 _ ⟨ex', wh', u5, u6, u7, y1, y2, y3, y4, y5, y6, lw', r2, l2, p2, w2, by rw [es]; exact hr', ?_⟩
        rw [hnr]
        by_cases q : r < R
        · have c := hR.2 r q
          rw [hS] at c
          rw [if_pos c, if_pos (by omega)]
          rfl
        · have c := hR.1
          rw [show R = r by omega, hS] at c
          rw [c, if_neg (by decide), if_neg (by omega)]
          rfl
      · rintro j hj st ⟨ex', wh', y1, y2, y3, y4, y5, y6, lw', r2, l2, p2, w2, hr', rfl⟩ kb3 hkb3
        have hnj : ((j + 1 : Nat) : Int) = (j : Int) + 1 := by omega
        have oj := (rdN_ok (mn := m) hn8 he hsn (fun Q i => hWn n Q i hn8) oS j (by omega)).1
        have hrd : rdN (lfK tw vf d (tw (383 + 7 * wk)) to by' (100 * m + fr) e n) (wfK tw vf d (tw (383 + 7 * wk)) to by' (100 * m + fr) e n) (snC tw vf d) e n S (j + 1) = if lfK tw vf d (tw (383 + 7 * wk)) to by' (100 * m + fr) e n (rdN (lfK tw vf d (tw (383 + 7 * wk)) to by' (100 * m + fr) e n) (wfK tw vf d (tw (383 + 7 * wk)) to by' (100 * m + fr) e n) (snC tw vf d) e n S j).2 j < sm (cK (snC tw vf d) e (rdN (lfK tw vf d (tw (383 + 7 * wk)) to by' (100 * m + fr) e n) (wfK tw vf d (tw (383 + 7 * wk)) to by' (100 * m + fr) e n) (snC tw vf d) e n S j).2 n j) ((rdN (lfK tw vf d (tw (383 + 7 * wk)) to by' (100 * m + fr) e n) (wfK tw vf d (tw (383 + 7 * wk)) to by' (100 * m + fr) e n) (snC tw vf d) e n S j).2 j) then (true, upP (rdN (lfK tw vf d (tw (383 + 7 * wk)) to by' (100 * m + fr) e n) (wfK tw vf d (tw (383 + 7 * wk)) to by' (100 * m + fr) e n) (snC tw vf d) e n S j).2 j (wfK tw vf d (tw (383 + 7 * wk)) to by' (100 * m + fr) e n (rdN (lfK tw vf d (tw (383 + 7 * wk)) to by' (100 * m + fr) e n) (wfK tw vf d (tw (383 + 7 * wk)) to by' (100 * m + fr) e n) (snC tw vf d) e n S j).2 j)) else rdN (lfK tw vf d (tw (383 + 7 * wk)) to by' (100 * m + fr) e n) (wfK tw vf d (tw (383 + 7 * wk)) to by' (100 * m + fr) e n) (snC tw vf d) e n S j := by rw [rdN]
        generalize rdN (lfK tw vf d (tw (383 + 7 * wk)) to by' (100 * m + fr) e n) (wfK tw vf d (tw (383 + 7 * wk)) to by' (100 * m + fr) e n) (snC tw vf d) e n S (j + 1) = J1 at *
        generalize rdN (lfK tw vf d (tw (383 + 7 * wk)) to by' (100 * m + fr) e n) (wfK tw vf d (tw (383 + 7 * wk)) to by' (100 * m + fr) e n) (snC tw vf d) e n S j = J0 at *
        have hkr := sm_rng (oj j hj) (by decide) (cK_rng (P := J0.2) (N := n) (i := j) hn8 he hsn)
        simp only [wp_X1_gather_L109]
        rw [zi_le (by omega), zi_neg]
        refine ⟨fun z => by omega, fun _ => ?_⟩
        refine p_crowdOut (f := J0.2 j) (mn := m) (by omega) (hr'.2 j hj) (oj j hj) (fun ex1 hx1 => ?_)
        have ho := rl_out hj hr' hx1
        rw [show (0 : Int32) = zi 0 from rfl]
        refine p_costOfX (eb := true) (b := 0) (f := J0.2 j) (mn := m) rfl (by omega) (hr'.2 j hj) (oj j hj) ?_
        rw [sm_congr (oj j hj) (cost_cK C t2' hdw ho)]
        have ag := agr n J0.2 j ex1 hn8 ho
        refine p_chooseX (CS_ex C (ex_rng he hn8 ho)) t hby hdw (by omega) (by omega) (fun hl hlt f wh2 ex2 hf hwf hwo hx2 z1 z2 z3 z4 z5 z6 lw2 r3 l3 p3 w3 => ⟨fun z => absurd z (by decide), fun _ => ?_⟩) (fun hno z1 z2 z3 z4 z5 z6 lw2 r3 l3 p3 w3 => ⟨fun _ => ?_, fun z => absurd rfl z⟩)
        · have hfw : ∀ j', 0 ≤ j' → j' < 120 → f j' = wfK tw vf d (tw (383 + 7 * wk)) to by' (100 * m + fr) e n J0.2 j j' := fun j' a b => by rw [hf j' a b, ag.2 hl j']
          rw [ag.1] at hl hlt
          rw [if_pos hlt] at hrd
          have hr2' := rl_cong hfw (rl_in hj ho (fun i hi _ => hr'.2 i hi) hwf hwo hx2)
          simp only [forall_eq, zi_lit, zi_add]
          refine hkb3 _ ⟨ex2, wh2, z1, z2, z3, z4, z5, z6, lw2, r3, l3, p3, w3, by rw [hrd]; exact hr2', ?_⟩
          rw [hrd, hnj]
          rfl
        · refine p_crowdOut (f := J0.2 j) (mn := m) (by omega) (hr'.2 j hj) (oj j hj) (fun ex2 hx2 => ?_)
          have hr2 : rlX e ex2 wh' J0.2 n := by
            have := rl_in (f := J0.2 j) (wh2 := wh') (wh := wh') hj ho (fun i hi _ => hr'.2 i hi) (hr'.2 j hj) (fun _ _ _ => rfl) hx2
            have eF : upP J0.2 j (J0.2 j) = J0.2 := by
              funext i
              by_cases q : i = j
              · rw [q, upP_s]
              · rw [upP_n q]
            rwa [eF] at this
          rw [if_neg (fun z => hno (by rw [ag.1]; exact ⟨by omega, z⟩))] at hrd
          simp only [forall_eq, zi_lit, zi_add]
          refine hkb3 _ ⟨ex2, wh', z1, z2, z3, z4, z5, z6, lw2, r3, l3, p3, w3, by rw [hrd]; exact hr2, ?_⟩
          rw [hrd, hnj]
          rfl
  · rintro i hi st ⟨ex', wh', u4, u5, u6, u7, y1, y2, y3, y4, y5, y6, lw', r2, l2, p2, w2, hx, ⟨Q, hQ, hr, rfl⟩ | ⟨hQ, rfl⟩⟩ kb hkb
    case inr =>
      have hno := fsN_none hQ (n - i)
      rw [show i + (n - i) = n by omega] at hno
      simp only [wp_X1_gather_L49]
      rw [zi_le (by omega)]
      exact ⟨fun z => by omega, fun _ => ⟨fun _ => fail _ _ _ _ _ _ _ _ _ _ _ _ _ _ _ _ _ _ _ _ _ hx hno, fun z => absurd trivial z⟩⟩
    have hni : ((i + 1 : Nat) : Int) = (i : Int) + 1 := by omega
    have hP := hfs i Q (by omega) hQ
    have ho : ∀ k, 0 ≤ k → k < 12000 → ex' k = e * cnO Q i (k / 100) (k % 100) i := fun k a b => by rw [hr.1 k a b, cnO_ge i (Or.inr (Int.le_refl _))]
    have ag := agr i Q i ex' (by omega) ho
    have hst : fsN (lfK tw vf d (tw (383 + 7 * wk)) to by' (100 * m + fr) e) (wfK tw vf d (tw (383 + 7 * wk)) to by' (100 * m + fr) e) (i + 1) = if lfK tw vf d (tw (383 + 7 * wk)) to by' (100 * m + fr) e i Q i < 1000000 then some (upP Q i (wfK tw vf d (tw (383 + 7 * wk)) to by' (100 * m + fr) e i Q i)) else none := by rw [fsN, hQ]
    simp only [wp_X1_gather_L49]
    rw [zi_le (by omega), show (268435456 : Int32) = zi 268435456 from rfl]
    refine ⟨fun z => by omega, fun _ => ⟨fun z => absurd z (by decide), fun _ => ?_⟩⟩
    refine p_chooseX (CS_ex C hx) t hby hdw (by omega) (by omega) (fun hl hlt f wh2 ex2 hf hwf hwo hx2 z1 z2 z3 z4 z5 z6 lw2 r3 l3 p3 w3 => ?_) (fun hno z1 z2 z3 z4 z5 z6 lw2 r3 l3 p3 w3 => ?_)
    · have hfw : ∀ j', 0 ≤ j' → j' < 120 → f j' = wfK tw vf d (tw (383 + 7 * wk)) to by' (100 * m + fr) e i Q i j' := fun j' a b => by rw [hf j' a b, ag.2 hl j']
      rw [ag.1] at hl
      rw [if_pos hl] at hst
      have ho1 : ∀ k, 0 ≤ k → k < 12000 → ex' k = e * cnO Q i (k / 100) (k % 100) (i + 1) := fun k a b => by
        rw [ho k a b, cnO, if_neg (fun z => z.1 rfl), Int.add_zero]
      have hr2' := rl_cong hfw (rl_in (N := i + 1) (Nat.lt_succ_self i) ho1 (fun j hj hne => hr.2 j (by omega)) hwf hwo hx2)
      simp only [forall_eq, zi_lit, zi_add]
      refine hkb _ ⟨ex2, wh2, u4, u5, u6, u7, z1, z2, z3, z4, z5, z6, lw2, r3, l3, p3, w3, ex_rng he (by omega) hr2'.1, Or.inl ⟨_, hst, hr2', ?_⟩⟩
      rw [hni]
      rfl
    · have hl : ¬ lfK tw vf d (tw (383 + 7 * wk)) to by' (100 * m + fr) e i Q i < 1000000 := fun z => hno (by rw [ag.1]; exact ⟨z, by omega⟩)
      rw [if_neg hl] at hst
      simp only [forall_eq, zi_lit, zi_add]
      refine hkb _ ⟨ex', wh', u4, u5, u6, u7, z1, z2, z3, z4, z5, z6, lw2, r3, l3, p3, w3, hx, Or.inr ⟨hst, ?_⟩⟩
      rw [hni]
      rfl
end GA
