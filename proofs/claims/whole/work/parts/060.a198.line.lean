/-! a line: what it makes of a town, and of the two programs -/
section LA
variable {tp : Int → Int} {tz : Int} {pl : Pool} {S : Int → Int} {vf : Int → Int → Int → Int32} {kd hg : Int → Int} {wks suns : Nat → Option Nat} {ww aw sw : Nat → Int64} {al sl : Int}
theorem tc_th (H : tcR pl S vf sl al kd hg wks suns aw sw ww) {s k h : Int} (hs : 0 ≤ s ∧ s < 100) (hk : 1 ≤ k ∧ k ≤ 3) (hh : 0 ≤ h ∧ h ≤ 99) : tcR pl (putT S s k h) vf sl al (upI kd s k) (upI hg s h) wks suns aw sw ww := by
  obtain ⟨h0, h1, h2, h3, h4, h5⟩ := tc_split H
  have a : ∀ lo hi : Int, 200 ≤ lo → agG lo hi S (putT S s k h) := fun lo hi hl => agG_tr (agG_up (by omega)) (agG_up (by omega))
  exact tc_join (i32_up (i32_up h0 (by omega)) (by omega)) (q1_put h1 hs hk hh) (q2_ag h2 (a _ _ (by omega))) (q3_ag h3 (a _ _ (by omega))) (q4_ag h4 (a _ _ (by omega))) (q5_ag h5 (a _ _ (by omega)))
theorem tc_wt (H : tcR pl S vf sl al kd hg wks suns aw sw ww) {s : Int} (h10 : S 424 < 10) (hs : 0 ≤ s ∧ s < 100) : tcR pl (wtS S s) vf sl al kd hg wks suns aw sw (hbp ww 0 s) := by
  obtain ⟨h0, h1, h2, h3, h4, h5⟩ := tc_split H
  have w := h5.1
  have a : ∀ lo hi : Int, hi ≤ 424 → agG lo hi S (wtS S s) := fun lo hi hl => agG_tr (agG_up (by omega)) (agG_up (by omega))
  exact tc_join (i32_up (i32_up h0 (by omega)) (by omega)) (q1_ag h1 (a _ _ (by omega))) (q2_ag h2 (a _ _ (by omega))) (q3_ag h3 (a _ _ (by omega))) (q4_ag h4 (a _ _ (by omega))) (q5_put h5 h10 hs)
theorem tc_su (H : tcR pl S vf sl al kd hg wks suns aw sw ww) {d m to a b : Int} {q : Nat} (h24 : S 261 < 24) (hd : 0 ≤ d ∧ d < 4) (hm : 0 ≤ m ∧ m < 120) (ht : 0 ≤ to ∧ to < 8) (ha : 1 ≤ a ∧ a ≤ 99) (hb : 1 ≤ b ∧ b ≤ 99) : tcR ((q, ob 7 [.int (zi d), .int (zi m), .int (zi to), .int (zi a), .int (zi b)]) :: pl) (suS S d m to a b) vf sl al kd hg wks (va_up suns (S 261).toNat (some q)) aw sw ww := by
  obtain ⟨h0, h1, h2, h3, h4, h5⟩ := tc_split H
  have w := h3.1
  have g : ∀ lo hi : Int, (hi ≤ 261 ∨ 382 ≤ lo) → agG lo hi S (suS S d m to a b) := fun lo hi hl => agG_tr (agG_tr (agG_tr (agG_tr (agG_tr (agG_up (by omega)) (agG_up (by omega))) (agG_up (by omega))) (agG_up (by omega))) (agG_up (by omega))) (agG_up (by omega))
  exact tc_join (i32_up (i32_up (i32_up (i32_up (i32_up (i32_up h0 (by omega)) (by omega)) (by omega)) (by omega)) (by omega)) (by omega)) (q1_ag h1 (g _ _ (by omega))) (q2_ag h2 (g _ _ (by omega))) (q3_put h3 h24 hd hm ht ha hb) (q4_ag (q4_mono (fun z hz => List.mem_cons_of_mem _ hz) h4) (g _ _ (by omega))) (q5_ag h5 (g _ _ (by omega)))
theorem wkT_i {T : Int → Int} (h0 : i32 T) {k : Int} {i : Nat} : ∀ n : Nat, i32 (wkT tp tz T k i n)
  | 0 => h0
  | n + 1 => by
    have vr := tV_rng (tp := tp) (tz := tz) (i := plW i n + 1)
    exact i32_up (wkT_i h0 n) (by omega)
theorem tc_wk (H : tcR pl S vf sl al kd hg wks suns aw sw ww) {i q : Nat} (hw : 0 ≤ tV tp tz (i + 1) ∧ tV tp tz (i + 1) ≤ 5) (hb : ∀ t : Nat, t < 6 → nS tp tz (loW t) (hiW t) (plW i t + 1) = 0) : tcR ((q, wkO tp tz i) :: pl) (wkS tp tz S i) vf sl al kd hg (va_up wks (tV tp tz (i + 1)).toNat (some q)) suns aw sw ww := by
  obtain ⟨h0, h1, h2, h3, h4, h5⟩ := tc_split H
  have g : ∀ lo hi : Int, (hi ≤ 382 ∨ 424 ≤ lo) → agG lo hi S (wkS tp tz S i) := fun lo hi hl j j0 j1 => by rw [wkS, upI_n (by omega), wkT_ne _ (by omega)]
  exact tc_join (i32_up (wkT_i h0 6) (by omega)) (q1_ag h1 (g _ _ (by omega))) (q2_ag h2 (g _ _ (by omega))) (q3_ag (q3_mono (fun z hz => List.mem_cons_of_mem _ hz) h3) (g _ _ (by omega))) (q4_put h4 hw hb) (q5_ag h5 (g _ _ (by omega)))
theorem tc_cl (H : tcR pl S vf sl al kd hg wks suns aw sw ww) {sq what : Int} {e : Nat} {v : Int → Int → Int32} (h20 : S 200 < 20) (hs : 0 ≤ sq ∧ sq < 100) (hw : what = 3 ∨ what = 4) (he : e ≤ 1000) : tcR pl (clS S sq what e) (upI vf (S 200) v) (if what = 3 then sl else sl + 1) (if what = 3 then al + 1 else al) kd hg wks suns (if what = 3 then flW aw sq v 480 else aw) (if what = 3 then sw else flW sw sq v 480) ww := by
  obtain ⟨h0, h1, h2, h3, h4, h5⟩ := tc_split H
  have w := h2.1
  have g : ∀ lo hi : Int, (hi ≤ 200 ∨ 261 ≤ lo) → agG lo hi S (clS S sq what e) := fun lo hi hl => agG_tr (agG_tr (agG_tr (agG_up (by omega)) (agG_up (by omega))) (agG_up (by omega))) (agG_up (by omega))
  exact tc_join (i32_up (i32_up (i32_up (i32_up h0 (by omega)) (by omega)) (by omega)) (by omega)) (q1_ag h1 (g _ _ (by omega))) (q2_put h2 h20 hs hw) (q3_ag h3 (g _ _ (by omega))) (q4_ag h4 (g _ _ (by omega))) (q5_ag h5 (g _ _ (by omega)))
def tcE (S : Int → Int) (vf : Int → Int → Int → Int32) : Prop := ∃ (pl : Pool) (sl al : Int) (kd hg : Int → Int) (wks suns : Nat → Option Nat) (aw sw ww : Nat → Int64), tcR pl S vf sl al kd hg wks suns aw sw ww
end LA
theorem sh_up {S T : Int → Int} (h : ∀ j, 0 ≤ j → j < 440 → S j = T (440 + j)) {k k' v : Int} (hk : k' = 440 + k) : ∀ j, 0 ≤ j → j < 440 → upI S k v j = upI T k' v (440 + j) := fun j j0 j1 => by
  by_cases q : j = k
  · rw [q, ← hk, upI_s, upI_s]
  · rw [upI_n q, upI_n (by omega)]; exact h j j0 j1
section LB
variable {tp : Int → Int} {tz : Int} {N : Nat}
theorem wkT_sh {S T : Int → Int} (h : ∀ j, 0 ≤ j → j < 440 → S j = T (440 + j)) {k : Int} {i : Nat} : ∀ n : Nat, ∀ j, 0 ≤ j → j < 440 → wkT tp tz S k i n j = wkT tp tz T (440 + k) i n (440 + j)
  | 0 => h
  | n + 1 => sh_up (wkT_sh h n) (by omega)
theorem wkT_scr {T : Int → Int} (hT : i32 T) {k : Int} (hk : 440 ≤ k ∧ k < 870) {i : Nat} : ∀ n : Nat, n ≤ 6 → scr T (wkT tp tz T k i n)
  | 0, _ => ⟨hT, fun _ _ => rfl⟩
  | n + 1, h => by
    have vr := tV_rng (tp := tp) (tz := tz) (i := plW i n + 1)
    exact scr_up (wkT_scr hT hk n (by omega)) (by omega) (by omega)
/-- what the class's reading of a line may end in -/
def lnF (pl : Pool) (fv : Int32) (post : Int32 → Int32 → Int32 → Int32 → Int32 → Int32 → Int32 → Int32 → Int32 → Int32 → Int32 → Int32 → Int32 → (Nat → Int32) → (Nat → Int32) → Int32 → Int32 → Int32 → Int32 → (Nat → Int32) → (Nat → Int32) → (Nat → Int32) → (Nat → Int64) → (Nat → Int64) → (Nat → Int64) → (Nat → Option Nat) → (Nat → Option Nat) → Pool → Prop) : Prop := ∀ (a b c d e e2 e3 s1 s2 s3 s4 : Int32) (kd hg : Nat → Int32) (x1 x2 x3 x4 : Int32) (y1 y2 y3 : Nat → Int32) (w1 w2 w3 : Nat → Int64) (o1 o2 : Nat → Option Nat) (p' : Pool), (∀ z ∈ pl, z ∈ p') → suV p' o1 → post 0 a b c d e e2 e3 fv s1 s2 s3 s4 kd hg x1 x2 x3 x4 y1 y2 y3 w1 w2 w3 o1 o2 p'
def lnG (tp : Int → Int) (tz : Int) (pl : Pool) (S : Int → Int) (vf : Int → Int → Int → Int32) (j : Nat) (post : Int32 → Int32 → Int32 → Int32 → Int32 → Int32 → Int32 → Int32 → Int32 → Int32 → Int32 → Int32 → Int32 → (Nat → Int32) → (Nat → Int32) → Int32 → Int32 → Int32 → Int32 → (Nat → Int32) → (Nat → Int32) → (Nat → Int32) → (Nat → Int64) → (Nat → Int64) → (Nat → Int64) → (Nat → Option Nat) → (Nat → Option Nat) → Pool → Prop) : Prop := ∀ (e e2 e3 : Int32) (sl al : Int) (kd hg : Int → Int) (x1 x2 x3 x4 : Int32) (y1 y2 y3 : Nat → Int32) (sw aw ww : Nat → Int64) (suns wks : Nat → Option Nat) (p' : Pool), (∀ z ∈ pl, z ∈ p') → tcR p' S vf sl al kd hg wks suns aw sw ww → post 1 (zi ((j + 1 : Nat) : Int)) (zi (tK tp tz j)) (zi (tV tp tz j)) (zi (pos tp tz j)) e e2 e3 0 (zi al) (zi sl) (zi (S 424)) (zi (S 261)) (zA kd) (zA hg) x1 x2 x3 x4 y1 y2 y3 sw aw ww suns wks p'
def lnC (tp : Int → Int) (tz : Int) (N : Nat) (f g h : Int → Int) (i : Nat) (S : Int → Int) (vf : Int → Int → Int → Int32) (k : Int) (j : Nat) (S' : Int → Int) (vf' : Int → Int → Int → Int32) : Prop := ∀ (pl : Pool) (sl al : Int) (kd hg : Int → Int) (wks suns : Nat → Option Nat) (aw sw ww : Nat → Int64), tcR pl S vf sl al kd hg wks suns aw sw ww → ∀ (num np site x1 x2 x3 x4 : Int32) (y1 y2 y3 : Nat → Int32) (post : Int32 → Int32 → Int32 → Int32 → Int32 → Int32 → Int32 → Int32 → Int32 → Int32 → Int32 → Int32 → Int32 → (Nat → Int32) → (Nat → Int32) → Int32 → Int32 → Int32 → Int32 → (Nat → Int32) → (Nat → Int32) → (Nat → Int32) → (Nat → Int64) → (Nat → Int64) → (Nat → Int64) → (Nat → Option Nat) → (Nat → Option Nat) → Pool → Prop), (k ≠ 0 → lnF pl (zi (k + 16 * pos tp tz j)) post) → (k = 0 → lnG tp tz pl S' vf' j post) → wp_X4_readLine (sz N) (sz N) (zA g) (sz N) (zi tz) (zA h) (zA f) (zi ((i + 1 : Nat) : Int)) (zi (tK tp tz i)) (zi (tV tp tz i)) (zi (pos tp tz i)) num np site 0 (zi al) (zi sl) (zi (S 424)) (zi (S 261)) (zA kd) (zA hg) x1 x2 x3 x4 y1 y2 y3 sw aw ww suns wks pl post
/-- the reference's new town -/
def lrR (op arg : Nat → Int32) (S : Int → Int) (vf : Int → Int → Int → Int32) (T : Int → Int) (e : Nat) : Prop := i32 T ∧ (∀ j, 0 ≤ j → j < 440 → S j = T (440 + j)) ∧ cdB op arg S vf e
def frO (op arg op' arg' : Nat → Int32) : Prop := ∀ q : Nat, q < 1100 ∨ 2200 ≤ q → op' q = op q ∧ arg' q = arg q
theorem frO_0 {op arg : Nat → Int32} : frO op arg op arg := fun _ _ => ⟨rfl, rfl⟩
theorem frO_tr {op arg o1 a1 o2 a2 : Nat → Int32} (h : frO op arg o1 a1) (g : frO o1 a1 o2 a2) : frO op arg o2 a2 := fun q hq => ⟨(g q hq).1.trans (h q hq).1, (g q hq).2.trans (h q hq).2⟩
def lnR (tp : Int → Int) (tz : Int) (so va pc : Int → Int) (i : Nat) (S : Int → Int) (vf : Int → Int → Int → Int32) (e : Nat) (k : Int) (j : Nat) (S' : Int → Int) (vf' : Int → Int → Int → Int32) (e' : Nat) : Prop := ∀ (T : Int → Int) (op arg : Nat → Int32), lrR op arg S vf T e → ∀ (post : Int32 → Int32 → Int32 → (Nat → Int32) → (Nat → Int32) → (Nat → Int32) → Prop), (k ≠ 0 → ∀ a c T' op' arg', scr T T' → frO op arg op' arg' → post a (zi (k + 16 * pos tp tz j)) c (zA T') op' arg') → (k = 0 → ∀ T' op' arg', scr T T' → frO op arg op' arg' → lrR op' arg' S' vf' T' e' → post (zi j) 0 (zi e') (zA T') op' arg') → wp_X12_readLine (zA so) (zL va) wd_30 (zA pc) (zi i) 0 (zi e) (zA T) op arg (fun at_ fa codes towns op arg => wp_X12_takeSign (zA so) (zL va) (zA pc) at_ fa 59 (fun at_ fa => post at_ fa codes towns op arg))
/-- which word a line of the reference begins with -/
def lnW (K : Int) : Int := if 0 ≤ K ∧ K ≤ 4 then K else if K = 6 ∨ K = 7 then K - 1 else -1
theorem wc_ln : ∀ n : Fin 7, wc n = if (n : Nat) ≤ 4 then (n : Int) else (n : Int) + 1 := by decide
theorem lnW_iff {K : Int} {n : Nat} (hn : n < 7) : (K = wc n ↔ lnW K = n) := by
  have e := wc_ln ⟨n, hn⟩
  dsimp only at e
  rw [e, lnW]
  by_cases q : n ≤ 4
  · rw [if_pos q]
    by_cases z : 0 ≤ K ∧ K ≤ 4
    · rw [if_pos z]
    · rw [if_neg z]
      by_cases y : K = 6 ∨ K = 7
      · rw [if_pos y]; omega
      · rw [if_neg y]; omega
  · rw [if_neg q]
    by_cases z : 0 ≤ K ∧ K ≤ 4
    · rw [if_pos z]; omega
    · rw [if_neg z]
      by_cases y : K = 6 ∨ K = 7
      · rw [if_pos y]; omega
      · rw [if_neg y]; omega
theorem lnW_rng {K : Int} : -1 ≤ lnW K ∧ lnW K ≤ 6 := by
  rw [lnW]
  by_cases z : 0 ≤ K ∧ K ≤ 4
  · rw [if_pos z]; omega
  · rw [if_neg z]
    by_cases y : K = 6 ∨ K = 7
    · rw [if_pos y]; omega
    · rw [if_neg y]; omega
theorem p_lnLoop {so va pc : Int → Int} (hf : flR tp tz (N + 1) so va pc) (hN1 : N ≤ 1000) {i : Nat} (hi : i ≤ N) {T op arg : Nat → Int32} {c : Int32} {x30 : Int32 → Int32 → Int32 → (Nat → Int32) → (Nat → Int32) → (Nat → Int32) → Int32 → Prop} {post : Int32 → Int32 → Int32 → (Nat → Int32) → (Nat → Int32) → (Nat → Int32) → Prop} (hp : x30 (zi i) 0 c T op arg (zi (lnW (tK tp tz i)))) : ∃ n, lp (wp_X12_readLine_L4 x30 (zA so) (zL va) wd_30 (zA pc) post) n (zi i, 0, c, T, op, arg, -1, 0) := by
  have lr := lnW_rng (K := tK tp tz i)
  refine lp_for0 (fun n => (zi i, 0, c, T, op, arg, zi (if 0 ≤ lnW (tK tp tz i) ∧ lnW (tK tp tz i) < n then lnW (tK tp tz i) else -1), zi n)) 7 ?_ ?_ ?_
  · rw [if_neg (by omega)]; rfl
  · intro kb
    dsimp only [wp_X12_readLine_L4]
    refine ⟨fun _ => ?_, fun z => absurd (by decide) z⟩
    by_cases q : 0 ≤ lnW (tK tp tz i)
    · rw [if_pos (by omega)]; exact hp
    · rw [if_neg (by omega)]
      rw [show lnW (tK tp tz i) = -1 by omega] at hp
      exact hp
  · intro n hn kb hkb
    have ew := lnW_iff (K := tK tp tz i) hn
    dsimp only [wp_X12_readLine_L4]
    refine ⟨fun z => ?_, fun _ => ?_⟩
    · rw [zi_lit, zi_lt (by omega)] at z; omega
    refine p_isWordR hf hN1 hi (by omega) (fun q => ⟨fun z => absurd z (by decide), fun _ y ey => ?_⟩) (fun q => ⟨fun _ y ey => ?_, fun z => absurd rfl z⟩)
    · have e := ew.mp q
      rw [if_pos (by omega), e] at hkb
      rw [ey, zi_p1]; exact hkb
    · have e : lnW (tK tp tz i) ≠ n := fun z => q (ew.mpr z)
      rw [ey, zi_p1]
      by_cases z : 0 ≤ lnW (tK tp tz i) ∧ lnW (tK tp tz i) < (n : Int)
      · rw [if_pos (by omega)] at hkb
        rw [if_pos z]; exact hkb
      · rw [if_neg (by omega)] at hkb
        rw [if_neg z]; exact hkb
end LB
