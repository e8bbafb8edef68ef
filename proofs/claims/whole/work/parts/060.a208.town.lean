/-! town(), the class's reading and the reference's -/
section TW
variable {tp : Int → Int} {tz : Int} {N : Nat}
def S0z : Int → Int := fun _ => 0
def vf0 : Int → Int → Int → Int32 := fun _ _ _ => 0
theorem tc_0 {pl : Pool} {kd hg : Int → Int} {wks suns : Nat → Option Nat} {aw sw ww : Nat → Int64} (h1 : i32 kd) (h2 : i32 hg) (h3 : ∀ s, 0 ≤ s → s < 100 → kd s = 0 ∧ hg s = 0) (h4 : ∀ w, w < 6 → wks w = none) (h5 : suV pl suns) (h6 : ∀ r s, 0 ≤ r → 2 * r + 1 < 960 → 0 ≤ s → s < 128 → hb aw r s = false ∧ hb sw r s = false) (h7 : ∀ s, 0 ≤ s → s < 100 → hb ww 0 s = false) : tcR pl S0z vf0 0 0 kd hg wks suns aw sw ww := by
  have nc : ∀ w d m s, ¬ clP S0z vf0 w d m s (S0z 200) := by
    rintro w d m s ⟨i, i0, i1, _⟩
    have : (0 : Int) = S0z 200 := rfl
    omega
  refine tc_join (fun k => by show -2147483648 ≤ (0 : Int) ∧ (0 : Int) < 2147483648; omega) ⟨fun s _ _ => ?_, fun s _ _ _ => rfl, h1, h2, h3⟩ ⟨?_, fun i i0 i1 => ?_, fun r s r0 r1 s0 s1 => ?_, fun r s r0 r1 s0 s1 => ?_, rfl, rfl⟩ ⟨?_, fun i i0 i1 => ?_, fun i i0 i1 => ?_, h5⟩ ⟨fun w w0 w1 w2 => ?_, fun w w0 w1 => ⟨fun _ => h4 _ (by omega), fun z => ?_⟩⟩ ⟨?_, fun s s0 s1 => ?_⟩
  · show ((0 : Int) ≤ 0 ∧ (0 : Int) ≤ 3) ∧ (0 : Int) ≤ 0 ∧ (0 : Int) ≤ 99
    omega
  · show (0 : Int) ≤ 0 ∧ (0 : Int) ≤ 20
    omega
  · have : (0 : Int) = S0z 200 := rfl
    omega
  · rw [(h6 r s r0 (by omega) s0 s1).1]
    exact ⟨fun z => absurd z (by decide), fun z => absurd z.2 (nc _ _ _ _)⟩
  · rw [(h6 r s r0 (by omega) s0 s1).2]
    exact ⟨fun z => absurd z (by decide), fun z => absurd z.2 (nc _ _ _ _)⟩
  · show (0 : Int) ≤ 0 ∧ (0 : Int) ≤ 24
    omega
  · have : (0 : Int) = S0z 261 := rfl
    omega
  · have : (0 : Int) = S0z 261 := rfl
    omega
  · have : (0 : Int) = S0z (382 + 7 * w) := rfl
    omega
  · have : (0 : Int) = S0z (382 + 7 * w) := rfl
    omega
  · show (0 : Int) ≤ 0 ∧ (0 : Int) ≤ 10
    omega
  · rw [watF, hbs, h7 s s0 s1, Bool.and_false]
    refine ⟨fun z => absurd z (by decide), fun ⟨i, i0, i1, _⟩ => ?_⟩
    have : (0 : Int) = S0z 424 := rfl
    omega
theorem tcE_0 : tcE S0z vf0 := by
  refine ⟨[], 0, 0, fun _ => 0, fun _ => 0, fun _ => none, fun _ => none, (fun k => if k < 960 then 0 else (fun _ => 0) k), (fun k => if k < 960 then 0 else (fun _ => 0) k), (fun k => if k < 2 then 0 else (fun _ => 0) k), tc_0 (fun k => by omega) (fun k => by omega) (fun _ _ _ => ⟨rfl, rfl⟩) (fun _ _ => rfl) (fun i hi v hv => by simp at hv) (fun r s r0 r1 s0 s1 => ⟨hb_empty ⟨r0, by omega⟩ ⟨s0, s1⟩, hb_empty ⟨r0, by omega⟩ ⟨s0, s1⟩⟩) (fun s s0 s1 => hb_empty (by omega) (by omega))⟩
theorem p_emptyC {al sl wl sul ps fo td : Int32} {kd hg : Int → Int} (hk : i32 kd) (hg' : i32 hg) {aw sw ww : Nat → Int64} {wks : Nat → Option Nat} {post : Int32 → Int32 → Int32 → Int32 → (Nat → Int32) → (Nat → Int32) → (Nat → Int64) → (Nat → Int64) → (Nat → Int64) → (Nat → Option Nat) → Int32 → Int32 → Int32 → Prop}
    (hp : ∀ (kd' hg' : Int → Int) (aw' sw' ww' : Nat → Int64) (wks' : Nat → Option Nat), (∀ (pl : Pool) (suns : Nat → Option Nat), suV pl suns → tcR pl S0z vf0 0 0 kd' hg' wks' suns aw' sw' ww') → post 0 0 0 0 (zA kd') (zA hg') aw' sw' ww' wks' 0 0 0) : wp_X8_empty al sl wl sul (zA kd) (zA hg) aw sw ww wks ps fo td post := by
  have fi : ∀ f : Int → Int, i32 f → i32 (flA f 0 ((100 : Nat) : Int) 0) := fun f h k => by
    rw [flA]
    split
    · omega
    · exact h k
  rw [wp_X8_empty]
  refine p_fillI (v := 0) (by decide) (p_fillI (v := 0) (by decide) (p_empty (by decide) (p_empty (by decide) (p_empty (by decide) ?_))))
  refine lp_inv (fun i s => ∃ o : Nat → Option Nat, s = (al, sl, wl, sul, zA (flA kd 0 ((100 : Nat) : Int) 0), zA (flA hg 0 ((100 : Nat) : Int) 0), (fun k => if k < 960 then 0 else aw k), (fun k => if k < 960 then 0 else sw k), (fun k => if k < 2 then 0 else ww k), o, ps, fo, td, zi (i : Int)) ∧ ∀ j, j < i → o j = none) 6 ?_ ?_ 0 (Nat.zero_le _) ⟨wks, rfl, fun j hj => absurd hj (Nat.not_lt_zero _)⟩
  · rintro s ⟨o, rfl, ho⟩ kb
    dsimp only [wp_X8_empty_L39]
    refine ⟨fun _ => ?_, fun z => absurd (by decide) z⟩
    simp only [wp_X0_empty]
    exact hp _ _ _ _ _ _ (fun pl suns hs => tc_0 (fi _ hk) (fi _ hg') (fun s s0 s1 => ⟨flA_in ⟨s0, s1⟩, flA_in ⟨s0, s1⟩⟩) ho hs (fun r s r0 r1 s0 s1 => ⟨hb_empty ⟨r0, by omega⟩ ⟨s0, s1⟩, hb_empty ⟨r0, by omega⟩ ⟨s0, s1⟩⟩) (fun s s0 s1 => hb_empty (by omega) (by omega)))
  · rintro i hi s ⟨o, rfl, ho⟩ kb hkb
    have e6 : nI 6 = zi 6 := rfl
    dsimp only [wp_X8_empty_L39]
    rw [e6, zi_le (by omega), zi_in (by omega), zi_cl (by omega), Int.toNat_natCast]
    refine ⟨fun z => by omega, fun _ => ⟨by omega, fun o' eo y ey => ?_⟩⟩
    rw [ey, zi_p1, eo]
    refine hkb _ ⟨_, rfl, fun j hj => ?_⟩
    by_cases q : j = i
    · rw [q, va_up_self]
    · rw [va_up_ne _ _ q]; exact ho j (by omega)
/-- the number of tokens is one alone -/
theorem nT_same {M : Nat} (h1 : pos tp tz N = tz) (h2 : ∀ i, i < N → pos tp tz i < tz) (g1 : pos tp tz M = tz) (g2 : ∀ i, i < M → pos tp tz i < tz) : M = N := by
  by_cases a : M < N
  · have := h2 M a; omega
  by_cases b : N < M
  · have := g2 N b; omega
  omega
/-- 440 zeros -/
def zeT (T : Int → Int) : Int → Int := fun j => if 440 ≤ j ∧ j < 880 then 0 else T j
theorem p_zeros {tape pc so op arg : Nat → Int32} {va : Nat → Int64} {T : Int → Int} {a1 a2 a3 a4 a5 a6 a7 a8 a9 b1 : Int32} {X : Int32 → Int32 → Int32 → Int32 → Int32 → Int32 → Int32 → Int32 → Int32 → Int32 → (Nat → Int32) → (Nat → Int32) → (Nat → Int64) → (Nat → Int32) → (Nat → Int32) → (Nat → Int32) → Prop} {post : Int32 → Int32 → Int32 → Int32 → Int32 → Int32 → Int32 → Int32 → Int32 → Int32 → Int32 → (Nat → Int32) → (Nat → Int32) → (Nat → Int64) → (Nat → Int32) → (Nat → Int32) → (Nat → Int32) → Prop} (hp : X a1 a2 a3 a4 a5 a6 a7 a8 a9 b1 pc so va (zA (zeT T)) op arg) : ∃ n, lp (wp_X12_town_L16 X tape wd_30 post) n (a1, a2, a3, a4, a5, a6, a7, a8, a9, b1, pc, so, va, zA T, op, arg, 0) := by
  have e0 : zA T = zA (fun j => if 440 ≤ j ∧ j < 440 + ((0 : Nat) : Int) then 0 else T j) := by
    congr 1
    funext j
    rw [if_neg (by omega)]
  rw [e0]
  refine lp_for0 (fun i => (a1, a2, a3, a4, a5, a6, a7, a8, a9, b1, pc, so, va, zA (fun j => if 440 ≤ j ∧ j < 440 + (i : Int) then 0 else T j), op, arg, zi i)) 440 rfl ?_ ?_
  · intro kb
    dsimp only [wp_X12_town_L16]
    refine ⟨fun _ => ?_, fun z => absurd (by decide) z⟩
    exact hp
  · intro i hi kb hkb
    dsimp only [wp_X12_town_L16]
    refine ⟨fun z => ?_, fun _ x ex => ?_⟩
    · rw [zi_lit, zi_le (by omega)] at z; omega
    rw [zi_lit, zi_add] at ex
    subst ex
    rw [zi_in (by omega)]
    refine ⟨by omega, fun tw etw y ey => ?_⟩
    rw [show (0 : Int32) = zi 0 from rfl, zA_upd (by omega)] at etw
    have eu : upI (fun j => if 440 ≤ j ∧ j < 440 + (i : Int) then 0 else T j) (440 + (i : Int)) 0 = (fun j => if 440 ≤ j ∧ j < 440 + ((i + 1 : Nat) : Int) then 0 else T j) := by
      funext j
      by_cases q : j = 440 + i
      · rw [q, upI_s, if_pos (by omega)]
      · rw [upI_n q]
        by_cases r : 440 ≤ j ∧ j < 440 + (i : Int)
        · rw [if_pos r, if_pos (by omega)]
        · rw [if_neg r, if_neg (by omega)]
    rw [etw, eu, ey, zi_p1]
    exact hkb
theorem lrR_0 {T : Int → Int} (hT : i32 T) {op arg : Nat → Int32} : lrR op arg S0z vf0 (zeT T) 0 := by
  refine ⟨fun k => ?_, fun j j0 j1 => ?_, fun i i0 i1 => ?_⟩
  · rw [zeT]
    split
    · omega
    · exact hT k
  · rw [zeT, if_pos (by omega)]; rfl
  · have : (0 : Int) = S0z 200 := rfl
    omega
theorem zeT_scr {T : Int → Int} (hT : i32 T) : scr T (zeT T) := ⟨(lrR_0 (op := fun _ => 0) (arg := fun _ => 0) hT).1, fun k hk => by rw [zeT, if_neg (by omega)]⟩
theorem p_townR (hz : 0 ≤ tz ∧ tz ≤ 1000) (ht : i32 tp) (hb : tokB tp tz) (hN : pos tp tz N = tz) (hl : ∀ i, i < N → pos tp tz i < tz) {n : Nat} {k : Int} (ko : k = 0 ∨ kok k) {j : Nat} {S' : Int → Int} {vf' : Int → Int → Int → Int32} {e' : Nat} (hR : ∀ so va pc, flR tp tz (N + 1) so va pc → rnR tp tz n so va pc 0 S0z vf0 0 k j S' vf' e') {T : Int → Int} (hT : i32 T) {th si at_ fa co sd sm fo td : Int32} {p0 s0 : Nat → Int32} {v0 : Nat → Int64} {op arg : Nat → Int32} {post : Int32 → Int32 → Int32 → Int32 → Int32 → Int32 → Int32 → Int32 → Int32 → Int32 → Int32 → (Nat → Int32) → (Nat → Int32) → (Nat → Int64) → (Nat → Int32) → (Nat → Int32) → (Nat → Int32) → Prop}
    (g1 : k ≠ 0 → ∀ (a c : Int32) (pc so : Nat → Int32) (va : Nat → Int64) T' op' arg', scr T T' → frO op arg op' arg' → post (zi (k + 16 * pos tp tz j)) 0 0 (zi tz) a (zi (k + 16 * pos tp tz j)) c sd sm fo td pc so va (zA T') op' arg')
    (g0 : k = 0 → ∀ (a c : Int32) (pc so : Nat → Int32) (va : Nat → Int64) T' op' arg', scr T T' → frO op arg op' arg' → lrR op' arg' S' vf' T' e' → post 0 0 0 (zi tz) a 0 c (-1) 0 0 0 pc so va (zA (caT T' 1 0)) (caO op' 1 0) (caO arg' 1 0)) : wp_X12_town (zA tp) wd_30 th (zi tz) si at_ fa co sd sm fo td p0 s0 v0 (zA T) op arg post := by
  obtain ⟨p0, rfl, _⟩ := zA_ex p0
  obtain ⟨s0, rfl, _⟩ := zA_ex s0
  obtain ⟨v0, rfl, _⟩ := zL_ex v0
  rw [wp_X12_town]
  refine p_cutR hz ht hb (fun M pc so va hM1 hM hMl hf => ?_)
  have e := nT_same hN hl hM hMl
  subst e
  refine p_zeros (T := T) ?_
  have zs := zeT_scr hT
  refine ⟨n, hR so va pc hf (zeT T) op arg (lrR_0 hT) 0 0 (zi tz) sd sm fo td _ _ _ (fun k1 a c T' op' arg' sc fr => ?_) (fun k0 a c T' op' arg' sc fr H => ?_)⟩
  · have kk : k = 1 ∨ k = 3 ∨ k = 4 ∨ k = 5 := by
      rcases ko with y | y
      · exact absurd y k1
      · exact y
    rw [wp_X12_town_b72]
    exact ⟨fun z => absurd z (flt_le hz kk j), fun _ => g1 k1 a c _ _ _ T' op' arg' (scr_tr zs sc) fr⟩
  · rw [wp_X12_town_b72]
    refine ⟨fun _ => ?_, fun z => absurd (by decide) z⟩
    exact p_carry (a := 1) (b := 0) (by decide) (by decide) (by decide) (g0 k0 a c _ _ _ T' op' arg' (scr_tr zs sc) fr H)
end TW
