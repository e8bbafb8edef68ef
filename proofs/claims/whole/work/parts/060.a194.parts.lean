/-! a town told line by line: its parts, and what a line makes of each -/
section PT
variable {pl : Pool} {S S' : Int → Int} {vf : Int → Int → Int → Int32} {kd hg : Int → Int} {wks suns : Nat → Option Nat} {ww aw sw : Nat → Int64} {al sl : Int}
def agG (lo hi : Int) (S S' : Int → Int) : Prop := ∀ j, lo ≤ j → j < hi → S' j = S j
def q1P (S kd hg : Int → Int) : Prop := (∀ s, 0 ≤ s → s < 100 → (0 ≤ S s ∧ S s ≤ 3) ∧ 0 ≤ S (100 + s) ∧ S (100 + s) ≤ 99) ∧ brR S ∧ kdR S kd hg
def q2P (S : Int → Int) (vf : Int → Int → Int → Int32) (sl al : Int) (aw sw : Nat → Int64) : Prop := (0 ≤ S 200 ∧ S 200 ≤ 20) ∧ (∀ i, 0 ≤ i → i < S 200 → (0 ≤ S (201 + 3 * i) ∧ S (201 + 3 * i) < 100) ∧ (S (202 + 3 * i) = 3 ∨ S (202 + 3 * i) = 4)) ∧ wR 960 aw (fun r s => clP S vf 3 (r / 120) (r % 120) s (S 200)) ∧ wR 960 sw (fun r s => clP S vf 4 (r / 120) (r % 120) s (S 200)) ∧ al = cntC (fun i => S (202 + 3 * i) = 3) (S 200).toNat ∧ sl = cntC (fun i => S (202 + 3 * i) = 4) (S 200).toNat
def q3P (pl : Pool) (S : Int → Int) (suns : Nat → Option Nat) : Prop := (0 ≤ S 261 ∧ S 261 ≤ 24) ∧ (∀ i, 0 ≤ i → i < S 261 → (0 ≤ S (262 + 5 * i) ∧ S (262 + 5 * i) < 4) ∧ (0 ≤ S (263 + 5 * i) ∧ S (263 + 5 * i) < 120) ∧ (0 ≤ S (264 + 5 * i) ∧ S (264 + 5 * i) < 8) ∧ (1 ≤ S (265 + 5 * i) ∧ S (265 + 5 * i) ≤ 99) ∧ (1 ≤ S (266 + 5 * i) ∧ S (266 + 5 * i) ≤ 99)) ∧ suR pl S suns ∧ suV pl suns
def q4P (pl : Pool) (S : Int → Int) (wks : Nat → Option Nat) : Prop := wkOk S ∧ wkR2 pl S wks
theorem tc_split (h : tcR pl S vf sl al kd hg wks suns aw sw ww) : i32 S ∧ q1P S kd hg ∧ q2P S vf sl al aw sw ∧ q3P pl S suns ∧ q4P pl S wks ∧ waR S ww := by
  obtain ⟨⟨⟨t1, t2, t3, t4, t5, t6⟩, k, b⟩, ⟨c1, c2, c3, c4⟩, ⟨d1, d2, d3⟩, e1, e2⟩ := h
  exact ⟨t1, ⟨t2, b, c1⟩, ⟨t5, t6, d1, d2, e1, e2⟩, ⟨t3, t4, c3, c4⟩, ⟨k, c2⟩, d3⟩
theorem tc_join (h0 : i32 S) (h1 : q1P S kd hg) (h2 : q2P S vf sl al aw sw) (h3 : q3P pl S suns) (h4 : q4P pl S wks) (h5 : waR S ww) : tcR pl S vf sl al kd hg wks suns aw sw ww := ⟨⟨⟨h0, h1.1, h3.1, h3.2.1, h2.1, h2.2.1⟩, h4.1, h1.2.1⟩, ⟨h1.2.2, h4.2, h3.2.2.1, h3.2.2.2⟩, ⟨h2.2.2.1, h2.2.2.2.1, h5⟩, h2.2.2.2.2.1, h2.2.2.2.2.2⟩
theorem q1_ag (h : q1P S kd hg) (a : agG 0 200 S S') : q1P S' kd hg := by
  obtain ⟨h1, h2, h3, h4, h5⟩ := h
  refine ⟨fun s s0 s1 => ?_, fun s s0 s1 z => ?_, h3, h4, fun s s0 s1 => ?_⟩
  · rw [a s (by omega) (by omega), a (100 + s) (by omega) (by omega)]; exact h1 s s0 s1
  · rw [a s (by omega) (by omega)] at z
    rw [a (100 + s) (by omega) (by omega)]; exact h2 s s0 s1 z
  · rw [a s (by omega) (by omega), a (100 + s) (by omega) (by omega)]; exact h5 s s0 s1
theorem q2_ag (h : q2P S vf sl al aw sw) (a : agG 200 261 S S') : q2P S' vf sl al aw sw := by
  obtain ⟨h1, h2, h3, h4, h5, h6⟩ := h
  have e0 := a 200 (by omega) (by omega)
  have cp : ∀ w d m s, clP S' vf w d m s (S' 200) ↔ clP S vf w d m s (S 200) := by
    intro w d m s
    rw [e0]
    refine ⟨fun ⟨i, i0, i1, i2, i3, i4⟩ => ⟨i, i0, i1, ?_, ?_, i4⟩, fun ⟨i, i0, i1, i2, i3, i4⟩ => ⟨i, i0, i1, ?_, ?_, i4⟩⟩
    · rw [← a _ (by omega) (by omega)]; exact i2
    · rw [← a _ (by omega) (by omega)]; exact i3
    · rw [a _ (by omega) (by omega)]; exact i2
    · rw [a _ (by omega) (by omega)]; exact i3
  refine ⟨by rw [e0]; exact h1, fun i i0 i1 => ?_, wR_S h3 (fun r s _ _ => cp 3 _ _ s), wR_S h4 (fun r s _ _ => cp 4 _ _ s), ?_, ?_⟩
  · rw [e0] at i1
    rw [a _ (by omega) (by omega), a (202 + 3 * i) (by omega) (by omega)]; exact h2 i i0 i1
  · rw [h5, e0]
    exact cntC_cong _ (fun i i0 i1 => by rw [a _ (by omega) (by omega)])
  · rw [h6, e0]
    exact cntC_cong _ (fun i i0 i1 => by rw [a _ (by omega) (by omega)])
theorem q3_ag (h : q3P pl S suns) (a : agG 261 382 S S') : q3P pl S' suns := by
  obtain ⟨h1, h2, h3, h4⟩ := h
  have e0 := a 261 (by omega) (by omega)
  refine ⟨by rw [e0]; exact h1, fun i i0 i1 => ?_, fun i i0 i1 => ?_, h4⟩
  · rw [e0] at i1
    rw [a (262 + 5 * i) (by omega) (by omega), a (263 + 5 * i) (by omega) (by omega), a (264 + 5 * i) (by omega) (by omega), a (265 + 5 * i) (by omega) (by omega), a (266 + 5 * i) (by omega) (by omega)]
    exact h2 i i0 i1
  · rw [e0] at i1
    rw [a (262 + 5 * i) (by omega) (by omega), a (263 + 5 * i) (by omega) (by omega), a (264 + 5 * i) (by omega) (by omega), a (265 + 5 * i) (by omega) (by omega), a (266 + 5 * i) (by omega) (by omega)]
    exact h3 i i0 i1
theorem q3_mono {pl' : Pool} (hp : ∀ z ∈ pl, z ∈ pl') (h : q3P pl S suns) : q3P pl' S suns := ⟨h.1, h.2.1, suR_mono hp h.2.2.1, suV_mono hp h.2.2.2⟩
theorem q4_ag (h : q4P pl S wks) (a : agG 382 424 S S') : q4P pl S' wks := by
  refine ⟨fun w w0 w1 w2 => ?_, fun w w0 w1 => ?_⟩
  · rw [a (382 + 7 * w) (by omega) (by omega)] at w2
    rw [a (383 + 7 * w) (by omega) (by omega), a (384 + 7 * w) (by omega) (by omega), a (385 + 7 * w) (by omega) (by omega), a (386 + 7 * w) (by omega) (by omega), a (387 + 7 * w) (by omega) (by omega), a (388 + 7 * w) (by omega) (by omega)]
    exact h.1 w w0 w1 w2
  · rw [a (382 + 7 * w) (by omega) (by omega), a (383 + 7 * w) (by omega) (by omega), a (384 + 7 * w) (by omega) (by omega), a (385 + 7 * w) (by omega) (by omega), a (386 + 7 * w) (by omega) (by omega), a (387 + 7 * w) (by omega) (by omega), a (388 + 7 * w) (by omega) (by omega)]
    exact h.2 w w0 w1
theorem q4_mono {pl' : Pool} (hp : ∀ z ∈ pl, z ∈ pl') (h : q4P pl S wks) : q4P pl' S wks := ⟨h.1, wkR2_mono hp h.2⟩
theorem q5_ag (h : waR S ww) (a : agG 424 435 S S') : waR S' ww := by
  have e0 := a 424 (by omega) (by omega)
  have h1 := h.1
  refine ⟨by rw [e0]; exact h1, fun s s0 s1 => ?_⟩
  rw [h.2 s s0 s1, e0]
  exact ⟨fun ⟨i, i0, i1, i2⟩ => ⟨i, i0, i1, by rw [a _ (by omega) (by omega)]; exact i2⟩, fun ⟨i, i0, i1, i2⟩ => ⟨i, i0, i1, by rw [a _ (by omega) (by omega)] at i2; exact i2⟩⟩
theorem agG_up {lo hi k v : Int} (hk : k < lo ∨ hi ≤ k) : agG lo hi S (upI S k v) := fun j a b => upI_n (by omega)
theorem agG_tr {lo hi : Int} {S2 : Int → Int} (h : agG lo hi S S') (g : agG lo hi S' S2) : agG lo hi S S2 := fun j a b => (g j a b).trans (h j a b)
/-- a thing on a square -/
theorem q1_put {s k h : Int} (H : q1P S kd hg) (hs : 0 ≤ s ∧ s < 100) (hk : 1 ≤ k ∧ k ≤ 3) (hh : 0 ≤ h ∧ h ≤ 99) : q1P (putT S s k h) (upI kd s k) (upI hg s h) := by
  obtain ⟨h1, h2, h3⟩ := H
  refine ⟨fun j j0 j1 => ?_, fun j j0 j1 z => ?_, putT_kd h3 hs (by omega) hh⟩
  · have := h1 j j0 j1
    rw [putT_k hs j j1, putT_h hs j j0]
    split <;> omega
  · rw [putT_k hs j j1] at z
    rw [putT_h hs j j0]
    by_cases q : j = s
    · rw [if_pos q] at z; omega
    · rw [if_neg q] at z ⊢; exact h2 j j0 j1 z
/-- a line of water -/
def wtS (S : Int → Int) (sq : Int) : Int → Int := upI (upI S (425 + S 424) sq) 424 (S 424 + 1)
theorem q5_put {sq : Int} (H : waR S ww) (h10 : S 424 < 10) (hs : 0 ≤ sq ∧ sq < 100) : waR (wtS S sq) (hbp ww 0 sq) := by
  obtain ⟨h1, h2⟩ := H
  have e4 : wtS S sq 424 = S 424 + 1 := by rw [wtS, upI_s]
  have ei : ∀ i, 0 ≤ i → wtS S sq (425 + i) = if i = S 424 then sq else S (425 + i) := by
    intro i i0
    rw [wtS, upI_n (by omega)]
    by_cases q : i = S 424
    · rw [q, upI_s, if_pos rfl]
    · rw [upI_n (by omega), if_neg q]
  refine ⟨by omega, fun s s0 s1 => ?_⟩
  have h3 := h2 s s0 s1
  rw [e4]
  rw [watF, hbs, Bool.and_eq_true, decide_eq_true_iff] at h3
  rw [watF, hbs, Bool.and_eq_true, decide_eq_true_iff, hb_p (by decide) (by omega) (by decide) (by omega), Bool.or_eq_true, decide_eq_true_iff]
  constructor
  · rintro ⟨z, y | y⟩
    · obtain ⟨i, i0, i1, i2⟩ := h3.mp ⟨z, y⟩
      refine ⟨i, i0, by omega, ?_⟩
      rw [ei i i0, if_neg (by omega)]; exact i2
    · refine ⟨S 424, h1.1, by omega, ?_⟩
      rw [ei _ h1.1, if_pos rfl]; exact y.2.symm
  · rintro ⟨i, i0, i1, i2⟩
    rw [ei i i0] at i2
    refine ⟨⟨by decide, by decide, s0, s1⟩, ?_⟩
    by_cases q : i = S 424
    · rw [if_pos q] at i2; exact Or.inr ⟨rfl, i2.symm⟩
    · rw [if_neg q] at i2
      exact Or.inl (h3.mpr ⟨i, i0, by omega, i2⟩).2
/-- a line of the sun -/
def suS (S : Int → Int) (d m to a b : Int) : Int → Int := upI (upI (upI (upI (upI (upI S (262 + 5 * S 261) d) (262 + 5 * S 261 + 1) m) (262 + 5 * S 261 + 2) to) (262 + 5 * S 261 + 3) a) (262 + 5 * S 261 + 4) b) 261 (S 261 + 1)
theorem suS_at {d m to a b : Int} (h0 : 0 ≤ S 261) : suS S d m to a b 261 = S 261 + 1 ∧ (∀ i, 0 ≤ i → i < S 261 → ∀ t, 0 ≤ t → t < 5 → suS S d m to a b (262 + 5 * i + t) = S (262 + 5 * i + t)) ∧ suS S d m to a b (262 + 5 * S 261) = d ∧ suS S d m to a b (263 + 5 * S 261) = m ∧ suS S d m to a b (264 + 5 * S 261) = to ∧ suS S d m to a b (265 + 5 * S 261) = a ∧ suS S d m to a b (266 + 5 * S 261) = b := by
  have x1 : 263 + 5 * S 261 = 262 + 5 * S 261 + 1 := by omega
  have x2 : 264 + 5 * S 261 = 262 + 5 * S 261 + 2 := by omega
  have x3 : 265 + 5 * S 261 = 262 + 5 * S 261 + 3 := by omega
  have x4 : 266 + 5 * S 261 = 262 + 5 * S 261 + 4 := by omega
  rw [x1, x2, x3, x4]
  refine ⟨by rw [suS, upI_s], fun i i0 i1 t t0 t1 => ?_, ?_, ?_, ?_, ?_, ?_⟩
  · rw [suS, upI_n (by omega), upI_n (by omega), upI_n (by omega), upI_n (by omega), upI_n (by omega), upI_n (by omega)]
  · rw [suS, upI_n (by omega), upI_n (by omega), upI_n (by omega), upI_n (by omega), upI_n (by omega), upI_s]
  · rw [suS, upI_n (by omega), upI_n (by omega), upI_n (by omega), upI_n (by omega), upI_s]
  · rw [suS, upI_n (by omega), upI_n (by omega), upI_n (by omega), upI_s]
  · rw [suS, upI_n (by omega), upI_n (by omega), upI_s]
  · rw [suS, upI_n (by omega), upI_s]
theorem suV_up {n q : Nat} {vs : List Value} (h : suV pl suns) : suV ((q, ob 7 vs) :: pl) (va_up suns n (some q)) := fun i hi v hv => by
  by_cases e : i = n
  · subst e
    rw [va_up_self] at hv
    have : q = v := Option.some.inj hv
    subst this
    exact ⟨vs, List.mem_cons_self ..⟩
  · rw [va_up_ne _ _ e] at hv
    obtain ⟨vs', h'⟩ := h i hi v hv
    exact ⟨vs', List.mem_cons_of_mem _ h'⟩
theorem q3_put {d m to a b : Int} {q : Nat} (H : q3P pl S suns) (h24 : S 261 < 24) (hd : 0 ≤ d ∧ d < 4) (hm : 0 ≤ m ∧ m < 120) (ht : 0 ≤ to ∧ to < 8) (ha : 1 ≤ a ∧ a ≤ 99) (hb : 1 ≤ b ∧ b ≤ 99) : q3P ((q, ob 7 [.int (zi d), .int (zi m), .int (zi to), .int (zi a), .int (zi b)]) :: pl) (suS S d m to a b) (va_up suns (S 261).toNat (some q)) := by
  obtain ⟨h1, h2, h3, h4⟩ := H
  obtain ⟨e0, eo, e1, e2, e3, e4, e5⟩ := suS_at (S := S) (d := d) (m := m) (to := to) (a := a) (b := b) h1.1
  have old : ∀ i, 0 ≤ i → i < S 261 → suS S d m to a b (262 + 5 * i) = S (262 + 5 * i) ∧ suS S d m to a b (263 + 5 * i) = S (263 + 5 * i) ∧ suS S d m to a b (264 + 5 * i) = S (264 + 5 * i) ∧ suS S d m to a b (265 + 5 * i) = S (265 + 5 * i) ∧ suS S d m to a b (266 + 5 * i) = S (266 + 5 * i) := by
    intro i i0 i1
    have f := fun t a b => eo i i0 i1 t a b
    have f0 := f 0 (by omega) (by omega)
    have f1 := f 1 (by omega) (by omega)
    have f2 := f 2 (by omega) (by omega)
    have f3 := f 3 (by omega) (by omega)
    have f4 := f 4 (by omega) (by omega)
    rw [show 262 + 5 * i + 0 = 262 + 5 * i by omega] at f0
    rw [show 262 + 5 * i + 1 = 263 + 5 * i by omega] at f1
    rw [show 262 + 5 * i + 2 = 264 + 5 * i by omega] at f2
    rw [show 262 + 5 * i + 3 = 265 + 5 * i by omega] at f3
    rw [show 262 + 5 * i + 4 = 266 + 5 * i by omega] at f4
    exact ⟨f0, f1, f2, f3, f4⟩
  refine ⟨by omega, fun i i0 i1 => ?_, fun i i0 i1 => ?_, suV_up h4⟩
  · by_cases e : i = S 261
    · rw [e, e1, e2, e3, e4, e5]; exact ⟨hd, hm, ht, ha, hb⟩
    · obtain ⟨f0, f1, f2, f3, f4⟩ := old i i0 (by omega)
      rw [f0, f1, f2, f3, f4]; exact h2 i i0 (by omega)
  · by_cases e : i = S 261
    · rw [e, e1, e2, e3, e4, e5]
      exact ⟨q, va_up_self .., List.mem_cons_self ..⟩
    · obtain ⟨f0, f1, f2, f3, f4⟩ := old i i0 (by omega)
      rw [f0, f1, f2, f3, f4]
      obtain ⟨p, p1, p2⟩ := h3 i i0 (by omega)
      exact ⟨p, by rw [va_up_ne _ _ (by omega)]; exact p1, List.mem_cons_of_mem _ p2⟩
/-- a line of a walker -/
theorem wkT_ne {tp : Int → Int} {tz : Int} {T : Int → Int} {k : Int} {i : Nat} {j : Int} : ∀ n : Nat, (j < k + 1 ∨ k + 1 + n ≤ j) → wkT tp tz T k i n j = T j
  | 0, _ => rfl
  | n + 1, h => by rw [wkT, upI_n (by omega), wkT_ne n (by omega)]
theorem wkT_at {tp : Int → Int} {tz : Int} {T : Int → Int} {k : Int} {i t : Nat} : ∀ n : Nat, t < n → wkT tp tz T k i n (k + 1 + t) = tV tp tz (plW i t + 1)
  | 0, h => absurd h (Nat.not_lt_zero _)
  | n + 1, h => by
    by_cases e : t = n
    · subst e; rw [wkT, upI_s]
    · rw [wkT, upI_n (by omega), wkT_at n (by omega)]
def wkS (tp : Int → Int) (tz : Int) (S : Int → Int) (i : Nat) : Int → Int := upI (wkT tp tz S (382 + 7 * tV tp tz (i + 1)) i 6) (382 + 7 * tV tp tz (i + 1)) 1
theorem q4_put {tp : Int → Int} {tz : Int} {i q : Nat} (H : q4P pl S wks) (hw : 0 ≤ tV tp tz (i + 1) ∧ tV tp tz (i + 1) ≤ 5) (hb : ∀ t : Nat, t < 6 → nS tp tz (loW t) (hiW t) (plW i t + 1) = 0) : q4P ((q, wkO tp tz i) :: pl) (wkS tp tz S i) (va_up wks (tV tp tz (i + 1)).toNat (some q)) := by
  have hi' : ∀ j, (j < 382 + 7 * tV tp tz (i + 1) ∨ 382 + 7 * tV tp tz (i + 1) + 7 ≤ j) → wkS tp tz S i j = S j := fun j hj => by rw [wkS, upI_n (by omega), wkT_ne _ (by omega)]
  have e0 : wkS tp tz S i (382 + 7 * tV tp tz (i + 1)) = 1 := by rw [wkS, upI_s]
  have et : ∀ t : Nat, t < 6 → wkS tp tz S i (382 + 7 * tV tp tz (i + 1) + 1 + t) = tV tp tz (plW i t + 1) := fun t ht => by rw [wkS, upI_n (by omega), wkT_at _ ht]
  have t0 := et 0 (by omega)
  have t1 := et 1 (by omega)
  have t2 := et 2 (by omega)
  have t3 := et 3 (by omega)
  have t4 := et 4 (by omega)
  have t5 := et 5 (by omega)
  rw [show 382 + 7 * tV tp tz (i + 1) + 1 + ((0 : Nat) : Int) = 383 + 7 * tV tp tz (i + 1) by omega] at t0
  rw [show 382 + 7 * tV tp tz (i + 1) + 1 + ((1 : Nat) : Int) = 384 + 7 * tV tp tz (i + 1) by omega] at t1
  rw [show 382 + 7 * tV tp tz (i + 1) + 1 + ((2 : Nat) : Int) = 385 + 7 * tV tp tz (i + 1) by omega] at t2
  rw [show 382 + 7 * tV tp tz (i + 1) + 1 + ((3 : Nat) : Int) = 386 + 7 * tV tp tz (i + 1) by omega] at t3
  rw [show 382 + 7 * tV tp tz (i + 1) + 1 + ((4 : Nat) : Int) = 387 + 7 * tV tp tz (i + 1) by omega] at t4
  rw [show 382 + 7 * tV tp tz (i + 1) + 1 + ((5 : Nat) : Int) = 388 + 7 * tV tp tz (i + 1) by omega] at t5
  have b0 : 1 ≤ tV tp tz (plW i 0 + 1) ∧ tV tp tz (plW i 0 + 1) ≤ 3 := (nS_0 (hb 0 (by omega))).2
  have b1 : 1 ≤ tV tp tz (plW i 1 + 1) ∧ tV tp tz (plW i 1 + 1) ≤ 99 := (nS_0 (hb 1 (by omega))).2
  have b2 : 1 ≤ tV tp tz (plW i 2 + 1) ∧ tV tp tz (plW i 2 + 1) ≤ 99 := (nS_0 (hb 2 (by omega))).2
  have b3 : 0 ≤ tV tp tz (plW i 3 + 1) ∧ tV tp tz (plW i 3 + 1) ≤ 9999 := (nS_0 (hb 3 (by omega))).2
  have b4 : 0 ≤ tV tp tz (plW i 4 + 1) ∧ tV tp tz (plW i 4 + 1) ≤ 99 := (nS_0 (hb 4 (by omega))).2
  have b5 : 0 ≤ tV tp tz (plW i 5 + 1) ∧ tV tp tz (plW i 5 + 1) ≤ 99 := (nS_0 (hb 5 (by omega))).2
  refine ⟨fun w w0 w1 w2 => ?_, fun w w0 w1 => ?_⟩
  · by_cases e : w = tV tp tz (i + 1)
    · rw [e, t0, t1, t2, t3, t4, t5]; exact ⟨b0, b1, b2, b3, b4, b5⟩
    · rw [hi' _ (by omega)] at w2
      rw [hi' _ (by omega), hi' (384 + 7 * w) (by omega), hi' (385 + 7 * w) (by omega), hi' (386 + 7 * w) (by omega), hi' (387 + 7 * w) (by omega), hi' (388 + 7 * w) (by omega)]
      exact H.1 w w0 w1 w2
  · by_cases e : w = tV tp tz (i + 1)
    · rw [e, e0, t0, t1, t2, t3, t4, t5]
      refine ⟨fun z => absurd (by decide) z, fun _ => ⟨q, va_up_self .., List.mem_cons_self ..⟩⟩
    · rw [hi' (382 + 7 * w) (by omega), hi' (383 + 7 * w) (by omega), hi' (384 + 7 * w) (by omega), hi' (385 + 7 * w) (by omega), hi' (386 + 7 * w) (by omega), hi' (387 + 7 * w) (by omega), hi' (388 + 7 * w) (by omega), va_up_ne _ _ (by omega)]
      have o := H.2 w w0 w1
      exact ⟨o.1, fun z => by
        obtain ⟨p, p1, p2⟩ := o.2 z
        exact ⟨p, p1, List.mem_cons_of_mem _ p2⟩⟩
/-- a line of an awning or a shut -/
def clS (S : Int → Int) (sq what : Int) (e : Nat) : Int → Int := upI (upI (upI (upI S (201 + 3 * S 200) sq) (202 + 3 * S 200) what) (203 + 3 * S 200) e) 200 (S 200 + 1)
theorem q2_put {sq what : Int} {e : Nat} {v : Int → Int → Int32} (H : q2P S vf sl al aw sw) (h20 : S 200 < 20) (hs : 0 ≤ sq ∧ sq < 100) (hw : what = 3 ∨ what = 4) : q2P (clS S sq what e) (upI vf (S 200) v) (if what = 3 then sl else sl + 1) (if what = 3 then al + 1 else al) (if what = 3 then flW aw sq v 480 else aw) (if what = 3 then sw else flW sw sq v 480) := by
  obtain ⟨h1, h2, h3, h4, h5, h6⟩ := H
  have e0 : clS S sq what e 200 = S 200 + 1 := by rw [clS, upI_s]
  have en1 : clS S sq what e (201 + 3 * S 200) = sq := by rw [clS, upI_n (by omega), upI_n (by omega), upI_n (by omega), upI_s]
  have en2 : clS S sq what e (202 + 3 * S 200) = what := by rw [clS, upI_n (by omega), upI_n (by omega), upI_s]
  have eo1 : ∀ i, 0 ≤ i → i < S 200 → clS S sq what e (201 + 3 * i) = S (201 + 3 * i) := fun i i0 i1 => by rw [clS, upI_n (by omega), upI_n (by omega), upI_n (by omega), upI_n (by omega)]
  have eo2 : ∀ i, 0 ≤ i → i < S 200 → clS S sq what e (202 + 3 * i) = S (202 + 3 * i) := fun i i0 i1 => by rw [clS, upI_n (by omega), upI_n (by omega), upI_n (by omega), upI_n (by omega)]
  have cp : ∀ w d m s, clP (clS S sq what e) (upI vf (S 200) v) w d m s (clS S sq what e 200) ↔ clP S vf w d m s (S 200) ∨ (what = w ∧ s = sq ∧ v d m ≠ 0) := by
    intro w d m s
    rw [e0]
    constructor
    · rintro ⟨i, i0, i1, i2, i3, i4⟩
      by_cases q : i = S 200
      · subst q
        rw [en1] at i2
        rw [en2] at i3
        rw [upI_s] at i4
        exact Or.inr ⟨i3, i2.symm, i4⟩
      · rw [eo1 i i0 (by omega)] at i2
        rw [eo2 i i0 (by omega)] at i3
        rw [upI_n q] at i4
        exact Or.inl ⟨i, i0, by omega, i2, i3, i4⟩
    · rintro (⟨i, i0, i1, i2, i3, i4⟩ | ⟨z1, z2, z3⟩)
      · refine ⟨i, i0, by omega, ?_, ?_, ?_⟩
        · rw [eo1 i i0 i1]; exact i2
        · rw [eo2 i i0 i1]; exact i3
        · rw [upI_n (by omega)]; exact i4
      · refine ⟨S 200, h1.1, by omega, ?_, ?_, ?_⟩
        · rw [en1]; exact z2.symm
        · rw [en2]; exact z1
        · rw [upI_s]; exact z3
  have ct : ∀ w : Int, cntC (fun i => clS S sq what e (202 + 3 * i) = w) (clS S sq what e 200).toNat = cntC (fun i => S (202 + 3 * i) = w) (S 200).toNat + if what = w then 1 else 0 := by
    intro w
    rw [e0, show (S 200 + 1).toNat = (S 200).toNat + 1 by omega, cntC, show (((S 200).toNat : Nat) : Int) = S 200 by omega]
    congr 1
    · exact cntC_cong _ (fun i i0 i1 => by rw [eo2 i i0 (by omega)])
    · by_cases q : what = w
      · exact (if_pos (en2.trans q)).trans (if_pos q).symm
      · exact (if_neg (fun z => q (en2.symm.trans z))).trans (if_neg q).symm
  have new : ∀ (W : Nat → Int64) (w : Int), what = w → wR 960 W (fun r s => clP S vf w (r / 120) (r % 120) s (S 200)) → wR 960 (flW W sq v 480) (fun r s => clP (clS S sq what e) (upI vf (S 200) v) w (r / 120) (r % 120) s (clS S sq what e 200)) := by
    intro W w ew hW r s r0 r1 s0 s1
    rw [flW_hb hs r0 ⟨s0, s1⟩ 480, hW r s r0 r1 s0 s1]
    constructor
    · rintro (⟨z, y⟩ | ⟨z1, z2, z3⟩)
      · exact ⟨z, (cp _ _ _ _).mpr (Or.inl y)⟩
      · exact ⟨by omega, (cp _ _ _ _).mpr (Or.inr ⟨ew, z2, z3⟩)⟩
    · rintro ⟨z, y⟩
      rcases (cp _ _ _ _).mp y with y | y
      · exact Or.inl ⟨z, y⟩
      · exact Or.inr ⟨by omega, y.2.1, y.2.2⟩
  have same : ∀ (W : Nat → Int64) (w : Int), what ≠ w → wR 960 W (fun r s => clP S vf w (r / 120) (r % 120) s (S 200)) → wR 960 W (fun r s => clP (clS S sq what e) (upI vf (S 200) v) w (r / 120) (r % 120) s (clS S sq what e 200)) := fun W w nw hW => wR_S hW (fun r s _ _ => ⟨fun y => ((cp _ _ _ _).mp y).resolve_right (fun z => nw z.1), fun y => (cp _ _ _ _).mpr (Or.inl y)⟩)
  refine ⟨by omega, fun i i0 i1 => ?_, ?_, ?_, ?_, ?_⟩
  · rw [e0] at i1
    by_cases q : i = S 200
    · rw [q, en1, en2]; exact ⟨hs, hw⟩
    · rw [eo1 i i0 (by omega), eo2 i i0 (by omega)]; exact h2 i i0 (by omega)
  · by_cases q : what = 3
    · rw [if_pos q]; exact new aw 3 q h3
    · rw [if_neg q]; exact same aw 3 q h3
  · by_cases q : what = 3
    · rw [if_pos q]; exact same sw 4 (by omega) h4
    · rw [if_neg q]; exact new sw 4 (by omega) h4
  · rw [ct, ← h5]
    by_cases q : what = 3
    · rw [if_pos q, if_pos q]
    · rw [if_neg q, if_neg q]; omega
  · rw [ct, ← h6]
    by_cases q : what = 3
    · rw [if_pos q, if_neg (by omega)]; omega
    · rw [if_neg q, if_pos (by omega)]
end PT
