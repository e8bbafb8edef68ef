/-! what an E is worth: codes as the class keeps them (a number, or -1 less a token) -/
abbrev lkT (t : Int) : Prop := t = 17 ∨ t = 18 ∨ t = 34 ∨ t = 35 ∨ t = 36 ∨ t = 37 ∨ t = 38
def evB (t : Int) (a b : Int32) : Int32 := if t = 17 then (if a = 0 then 0 else if b = 0 then 0 else 1) else if t = 18 then (if ¬ a = 0 then 1 else if b = 0 then 0 else 1) else if t = 34 then (if b ≤ a then 0 else 1) else if t = 35 then (if a = b then 1 else 0) else if t = 36 then a + b else if t = 37 then a - b else a * b
def nt1 : List Int32 → Option (List Int32)
  | x :: S => some ((if x = 0 then 1 else 0) :: S)
  | [] => none
def lk1 (t : Int) : List Int32 → Option (List Int32)
  | y :: x :: S => some (evB t x y :: S)
  | _ => none
def st1 (d m : Int32) (a : Int) (S : List Int32) : Option (List Int32) := if 0 ≤ a then (if a ≤ 9999 ∧ S.length < 64 then some (zi a :: S) else none) else if a = -21 then (if S.length < 64 then some (m :: S) else none) else if a = -22 then (if S.length < 64 then some (d :: S) else none) else if a = -20 then nt1 S else if lkT (-1 - a) then lk1 (-1 - a) S else none
def rnO (d m : Int32) : List Int → List Int32 → Option (List Int32)
  | [], S => some S
  | a :: C, S => (st1 d m a S).bind (rnO d m C)
theorem rnO_app {d m : Int32} : ∀ (C D : List Int) (S : List Int32), rnO d m (C ++ D) S = (rnO d m C S).bind (rnO d m D)
  | [], D, S => rfl
  | a :: C, D, S => by
    rw [List.cons_append, rnO, rnO]
    cases st1 d m a S with
    | none => rfl
    | some S' => exact rnO_app C D S'
/-- a whole E, which needs b places -/
def XE (b : Nat) (C : List Int) : Prop := ∃ v : Int32 → Int32 → Int32, ∀ d m S, S.length + b ≤ 64 → rnO d m C S = some (v d m :: S)
theorem XE_mono {b b' : Nat} {C : List Int} (h : b ≤ b') : XE b C → XE b' C := fun ⟨v, hv⟩ => ⟨v, fun d m S hS => hv d m S (by omega)⟩
theorem XE_num {a : Int} (h0 : 0 ≤ a) (h1 : a ≤ 9999) : XE 1 [a] := ⟨fun _ _ => zi a, fun d m S hS => by rw [rnO, st1, if_pos h0, if_pos ⟨h1, by omega⟩]; rfl⟩
theorem XE_min : XE 1 [-21] := ⟨fun _ m => m, fun d m S hS => by rw [rnO, st1, if_neg (by omega), if_pos rfl, if_pos (by omega)]; rfl⟩
theorem XE_day : XE 1 [-22] := ⟨fun d _ => d, fun d m S hS => by rw [rnO, st1, if_neg (by omega), if_neg (by omega), if_pos rfl, if_pos (by omega)]; rfl⟩
theorem XE_not {b : Nat} {C : List Int} : XE b C → XE b (C ++ [-20]) := fun ⟨v, hv⟩ => ⟨fun d m => if v d m = 0 then 1 else 0, fun d m S hS => by
  rw [rnO_app, hv d m S hS]
  show rnO d m [-20] (v d m :: S) = _
  rw [rnO, st1, if_neg (by omega), if_neg (by omega), if_neg (by omega), if_pos rfl]; rfl⟩
theorem XE_lnk {b : Nat} {C D : List Int} {t : Int} (ht : lkT t) : XE (b + 1) C → XE b D → XE (b + 1) (C ++ D ++ [-1 - t]) := fun ⟨v, hv⟩ ⟨w, hw⟩ => ⟨fun d m => evB t (v d m) (w d m), fun d m S hS => by
  have q : ¬ (0 ≤ -1 - t) ∧ -1 - t ≠ -21 ∧ -1 - t ≠ -22 ∧ -1 - t ≠ -20 := by unfold lkT at ht; omega
  have e : -1 - (-1 - t) = t := by omega
  rw [rnO_app, rnO_app, hv d m S hS]
  show ((rnO d m D (v d m :: S)).bind (rnO d m [-1 - t])) = _
  rw [hw d m (v d m :: S) (by rw [List.length_cons]; omega)]
  show rnO d m [-1 - t] (w d m :: v d m :: S) = _
  rw [rnO, st1, if_neg q.1, if_neg q.2.1, if_neg q.2.2.1, if_neg q.2.2.2, e, if_pos ht]; rfl⟩
/-- a pile, its top first -/
def stk (w : Nat → Int32) : List Int32 → Prop
  | [] => True
  | x :: S => w S.length = x ∧ stk w S
theorem stk_up {w : Nat → Int32} {n : Nat} {x : Int32} : ∀ S : List Int32, S.length ≤ n → stk w S → stk (upd w n x) S
  | [], _, _ => trivial
  | y :: S, h, hs => by
    rw [List.length_cons] at h
    exact ⟨by rw [pk_un (by omega)]; exact hs.1, stk_up S (by omega) hs.2⟩
theorem stk_push {w : Nat → Int32} {x : Int32} {S : List Int32} (h : stk w S) : stk (upd w S.length x) (x :: S) := ⟨pk_us .., stk_up S (by omega) h⟩
/-- a row's first numbers -/
def fwd (f : Int → Int) (C : List Int) : Prop := ∀ i : Nat, i < C.length → f i = C.getD i 0
theorem fwd_add {f : Int → Int} {C : List Int} {x : Int} (h : fwd f C) : fwd (upI f C.length x) (C ++ [x]) := by
  intro i hi
  rw [List.length_append, List.length_singleton] at hi
  by_cases q : i = C.length
  · rw [q, upI_s, List.getD_eq_getElem?_getD, List.getElem?_append_right (by omega)]
    simp
  · rw [upI_n (by omega), h i (by omega), List.getD_eq_getElem?_getD, List.getD_eq_getElem?_getD, List.getElem?_append_left (by omega)]
theorem fwd_drop {f : Int → Int} {C : List Int} (h : fwd f C) {i : Nat} (hi : i < C.length) : C.drop i = f i :: C.drop (i + 1) := by
  rw [h i hi, List.getD_eq_getElem?_getD, List.getElem?_eq_getElem hi]
  exact List.drop_eq_getElem_cons hi
theorem drop_getD {C : List Int} {i : Nat} (hi : i < C.length) : C.drop i = C.getD i 0 :: C.drop (i + 1) := by
  rw [List.getD_eq_getElem?_getD, List.getElem?_eq_getElem hi]
  exact List.drop_eq_getElem_cons hi
section CV
theorem p_setV {w : Nat → Int32} {i : Nat} {x : Int32} (hi : i < 64) {post : (Nat → Int32) → Prop} (h : post (upd w i x)) : wp_X2_setValue w (zi i) x post := by
  simp (disch := omega) only [wp_X2_setValue, forall_eq, nI_zi, zi_lit, zi_lt, zi_le, zi_in]
  rw [zi_cl (by omega), Int.toNat_natCast]
  exact ⟨fun z => by omega, fun _ => ⟨fun z => by omega, fun _ => ⟨by omega, h⟩⟩⟩
theorem p_valAt {w : Nat → Int32} {i : Nat} (hi : i < 64) {post : Int32 → Prop} (h : post (w i)) : wp_X2_valueAt w (zi i) post := by
  simp (disch := omega) only [wp_X2_valueAt, nI_zi, zi_lit, zi_lt, zi_in]
  rw [zi_cl (by omega), Int.toNat_natCast]
  exact ⟨fun z => by omega, fun _ => ⟨fun _ => ⟨by omega, h⟩, fun z => by omega⟩⟩
theorem p_link {t : Int} (ht : lkT t) {a b : Int32} {post : Int32 → Prop} (h : post (evB t a b)) : wp_X2_link (zi t) a b post := by
  have r : -2147483648 ≤ t ∧ t < 2147483648 := by unfold lkT at ht; omega
  simp (disch := omega) only [wp_X2_link, zi_lit, zi_eq]
  unfold lkT at ht
  rw [evB] at h
  refine ⟨fun e => ?_, fun e => ?_, fun e => ?_, fun e => ?_, fun e => ?_, fun e => ?_, fun n1 n2 n3 n4 n5 n6 => ?_⟩
  · rw [if_pos e] at h
    refine ⟨fun z => ?_, fun z => ⟨fun y => ?_, fun y => ?_⟩⟩
    · rw [if_pos (show a = 0 from z)] at h; exact h
    · rw [if_neg (show ¬ a = 0 from z), if_pos (show b = 0 from y)] at h; exact h
    · rw [if_neg (show ¬ a = 0 from z), if_neg (show ¬ b = 0 from y)] at h; exact h
  · rw [if_neg (by omega), if_pos e] at h
    refine ⟨fun z => ?_, fun z => ⟨fun y => ?_, fun y => ?_⟩⟩
    · rw [if_pos (show ¬ a = 0 from z)] at h; exact h
    · rw [if_neg (fun q => q (show a = 0 from z)), if_pos (show b = 0 from y)] at h; exact h
    · rw [if_neg (fun q => q (show a = 0 from z)), if_neg (show ¬ b = 0 from y)] at h; exact h
  · rw [if_neg (by omega), if_neg (by omega), if_pos e] at h
    exact ⟨fun z => by rw [if_pos z] at h; exact h, fun z => by rw [if_neg z] at h; exact h⟩
  · rw [if_neg (by omega), if_neg (by omega), if_neg (by omega), if_pos e] at h
    exact ⟨fun z => by rw [if_neg z] at h; exact h, fun z => by rw [if_pos z] at h; exact h⟩
  · rw [if_neg (by omega), if_neg (by omega), if_neg (by omega), if_neg (by omega), if_pos e] at h; exact h
  · rw [if_neg (by omega), if_neg (by omega), if_neg (by omega), if_neg (by omega), if_neg (by omega), if_pos e] at h; exact h
  · rw [if_neg n1, if_neg n2, if_neg n3, if_neg n4, if_neg n5, if_neg n6] at h; exact h
theorem p_valueC {C : List Int} {f : Int → Int} (hf : fwd f C) (hl : C.length ≤ 1000) {d m v : Int32} (hv : rnO d m C [] = some [v]) {w : Nat → Int32} {post : Int32 → (Nat → Int32) → Prop} (hp : ∀ w', post v w') : wp_X2_value (zi C.length) (zA f) w d m post := by
  rw [wp_X2_value]
  refine lp_inv (fun i s => ∃ (w' : Nat → Int32) (S : List Int32), s = (w', d, m, zi (S.length - 1), zi i) ∧ stk w' S ∧ S.length ≤ 64 ∧ rnO d m (C.drop i) S = some [v]) C.length ?_ ?_ 0 (by omega) ⟨w, [], rfl, trivial, by simp, hv⟩
  · rintro s ⟨w', S, rfl, hs, hS, hr⟩ kb
    rw [List.drop_length, rnO] at hr
    have eS : S = [v] := Option.some.inj hr
    subst eS
    dsimp only [wp_X2_value_L5]
    simp (disch := omega) only [zi_le]
    refine ⟨fun _ => ?_, fun z => by omega⟩
    refine p_valAt (i := 0) (by omega) ?_
    rw [show w' 0 = v from hs.1]
    exact hp _
  · rintro i hi s ⟨w', S, rfl, hs, hS, hr⟩ kb hkb
    rw [fwd_drop hf hi, rnO, st1] at hr
    dsimp only [wp_X2_value_L5]
    simp (disch := omega) only [zi_le]
    refine ⟨fun z => by omega, fun _ => ?_⟩
    refine p_at (by decide) (by omega) (by omega) (fun _ _ => ?_) (fun z => by omega)
    have push : ∀ x, S.length < 64 → rnO d m (C.drop (i + 1)) (x :: S) = some [v] → wp_X2_setValue w' (zi (S.length - 1 + 1)) x (fun t_values_80 => kb (t_values_80, d, m, zi (S.length - 1 + 1), zi (i + 1))) := by
      intro x h64 hx
      have e : (S.length : Int) - 1 + 1 = S.length := by omega
      rw [e]
      refine p_setV (by omega) ?_
      refine hkb _ ⟨_, x :: S, ?_, stk_push hs, by rw [List.length_cons]; omega, hx⟩
      rw [List.length_cons, show (((S.length + 1 : Nat) : Int) - 1) = S.length by omega]
      rfl
    by_cases h0 : 0 ≤ f i
    · rw [if_pos h0] at hr
      by_cases h1 : f i ≤ 9999 ∧ S.length < 64
      rotate_left
      · rw [if_neg h1] at hr; exact absurd hr (fun z => nomatch z)
      rw [if_pos h1] at hr
      simp (disch := omega) only [wp_X2_value_b53, wp_X2_value_b80, forall_eq, zi_lit, zi_neg, zi_sub, zi_add, zi_le, zi_lt]
      refine ⟨fun _ => ⟨fun z => by omega, fun _ => push _ h1.2 hr⟩, fun z => absurd h0 z⟩
    rw [if_neg h0] at hr
    by_cases h2 : f i = -21
    · rw [if_pos h2] at hr
      by_cases h1 : S.length < 64
      rotate_left
      · rw [if_neg h1] at hr; exact absurd hr (fun z => nomatch z)
      rw [if_pos h1] at hr
      rw [h2]
      simp (disch := omega) only [wp_X2_value_b53, wp_X2_value_b80, forall_eq, zi_lit, zi_neg, zi_sub, zi_add, zi_le, zi_lt, zi_eq]
      exact ⟨fun z => by omega, fun _ => ⟨fun _ => ⟨fun _ => ⟨fun _ => push _ h1 hr, fun z => by omega⟩, fun z => by omega⟩, fun z => by omega⟩⟩
    rw [if_neg h2] at hr
    by_cases h3 : f i = -22
    · rw [if_pos h3] at hr
      by_cases h1 : S.length < 64
      rotate_left
      · rw [if_neg h1] at hr; exact absurd hr (fun z => nomatch z)
      rw [if_pos h1] at hr
      rw [h3]
      simp (disch := omega) only [wp_X2_value_b53, wp_X2_value_b80, forall_eq, zi_lit, zi_neg, zi_sub, zi_add, zi_le, zi_lt, zi_eq]
      exact ⟨fun z => by omega, fun _ => ⟨fun z => by omega, fun _ => ⟨fun z => by omega, fun _ => ⟨fun _ => ⟨fun z => by omega, fun _ => push _ h1 hr⟩, fun z => by omega⟩⟩⟩⟩
    rw [if_neg h3] at hr
    by_cases h4 : f i = -20
    · rw [if_pos h4] at hr
      match S, hs, hS, hr with
      | [], hs, hS, hr => exact absurd hr (fun z => nomatch z)
      | x :: S, hs, hS, hr =>
        rw [h4]
        rw [List.length_cons] at hS
        simp (disch := omega) only [wp_X2_value_b108, forall_eq, zi_lit, zi_neg, zi_sub, zi_add, zi_le, zi_lt, zi_eq]
        rw [List.length_cons, show (((S.length + 1 : Nat) : Int) - 1) = S.length by omega]
        have go : ∀ y, (if x = 0 then (1 : Int32) else 0) = y → kb (upd w' S.length y, d, m, zi S.length, zi (i + 1)) := by
          intro y hy
          refine hkb _ ⟨_, y :: S, ?_, stk_push hs.2, by rw [List.length_cons]; omega, by rw [← hy]; exact hr⟩
          rw [List.length_cons, show (((S.length + 1 : Nat) : Int) - 1) = S.length by omega]
          rfl
        refine ⟨fun z => by omega, fun _ => ⟨fun z => by omega, fun _ => ⟨fun _ => ⟨fun z => by omega, fun _ => ?_⟩, fun z => by omega⟩⟩⟩
        refine p_valAt (by omega) ?_
        rw [hs.1]
        refine ⟨fun z => p_setV (by omega) (go _ ?_), fun z => p_setV (by omega) (go _ ?_)⟩
        · rw [if_neg (show ¬ x = 0 from z)]; rfl
        · rw [if_pos (show x = 0 from z)]; rfl
    rw [if_neg h4] at hr
    by_cases h5 : lkT (-1 - f i)
    rotate_left
    · rw [if_neg h5] at hr; exact absurd hr (fun z => nomatch z)
    rw [if_pos h5] at hr
    match S, hs, hS, hr with
    | [], hs, hS, hr => exact absurd hr (fun z => nomatch z)
    | [x], hs, hS, hr => exact absurd hr (fun z => nomatch z)
    | y :: x :: S, hs, hS, hr =>
      have fb : -40 ≤ f i := by unfold lkT at h5; omega
      rw [List.length_cons, List.length_cons] at hS
      simp (disch := omega) only [forall_eq, zi_lit, zi_neg, zi_sub, zi_add, zi_le, zi_lt, zi_eq]
      rw [List.length_cons, List.length_cons, show (((S.length + 1 + 1 : Nat) : Int) - 1 + -1) = S.length by omega]
      refine ⟨fun z => by omega, fun _ => ⟨fun z => by omega, fun _ => ⟨fun _ => ⟨fun _ => ?_, fun z => by omega⟩, fun z => by omega⟩⟩⟩
      refine p_valAt (by omega) ?_
      rw [hs.2.1]
      refine p_valAt (i := S.length + 1) (by omega) ?_
      rw [show w' (S.length + 1) = y from hs.1]
      refine p_link h5 (p_setV (by omega) ?_)
      refine hkb _ ⟨_, evB (-1 - f i) x y :: S, ?_, stk_push hs.2.2, by rw [List.length_cons]; omega, hr⟩
      rw [List.length_cons, show (((S.length + 1 : Nat) : Int) - 1) = S.length by omega]
      rfl
end CV
def opL (t : Int) : Int := if t = 36 then 4 else if t = 37 then 5 else if t = 38 then 6 else if t = 34 then 7 else if t = 35 then 8 else if t = 17 then 9 else 10
def opI (a : Int) : Int := if 0 ≤ a then 1 else if a = -21 ∨ a = -22 then 2 else if a = -20 then 3 else opL (-1 - a)
def agI (a : Int) : Int := if 0 ≤ a then a else if a = -22 then 1 else 0
def cds (op arg : Nat → Int32) (c : Nat) (C : List Int) : Prop := (∀ i : Nat, i < C.length → op (c + i) = zi (opI (C.getD i 0)) ∧ arg (c + i) = zi (agI (C.getD i 0))) ∧ op (c + C.length) = 0
section RV
theorem p_linkR {t : Int} (ht : lkT t) {a b : Int32} {post : Int32 → Prop} (h : post (evB t a b)) : wp_X12_both (zi (opL t)) a b post := by
  have r : 4 ≤ opL t ∧ opL t ≤ 10 := by
    rw [opL]
    repeat' split
    all_goals omega
  simp (disch := omega) only [wp_X12_both, zi_lit, zi_eq]
  unfold lkT at ht
  rw [evB] at h
  rcases ht with e | e | e | e | e | e | e
  · have o : opL t = 9 := by rw [e]; decide
    rw [if_pos e] at h
    rw [o]
    refine ⟨fun z => by omega, fun z => by omega, fun z => by omega, fun z => by omega, fun z => by omega, fun _ => ⟨fun z => ?_, fun z => ⟨fun y => ?_, fun y => ?_⟩⟩, fun _ _ _ _ _ z => absurd rfl z⟩
    · rw [if_pos (show a = 0 from z)] at h; exact h
    · rw [if_neg (show ¬ a = 0 from z), if_pos (show b = 0 from y)] at h; exact h
    · rw [if_neg (show ¬ a = 0 from z), if_neg (show ¬ b = 0 from y)] at h; exact h
  · have o : opL t = 10 := by rw [e]; decide
    rw [if_neg (by omega), if_pos e] at h
    rw [o]
    refine ⟨fun z => by omega, fun z => by omega, fun z => by omega, fun z => by omega, fun z => by omega, fun z => by omega, fun _ _ _ _ _ _ => ⟨fun z => ?_, fun z => ⟨fun y => ?_, fun y => ?_⟩⟩⟩
    · rw [if_pos (show ¬ a = 0 from z)] at h; exact h
    · rw [if_neg (fun q => q (show a = 0 from z)), if_pos (show b = 0 from y)] at h; exact h
    · rw [if_neg (fun q => q (show a = 0 from z)), if_neg (show ¬ b = 0 from y)] at h; exact h
  · have o : opL t = 7 := by rw [e]; decide
    rw [if_neg (by omega), if_neg (by omega), if_pos e] at h
    rw [o]
    refine ⟨fun z => by omega, fun z => by omega, fun z => by omega, fun _ => ⟨fun z => ?_, fun z => ?_⟩, fun z => by omega, fun z => by omega, fun _ _ _ z => absurd rfl z⟩
    · rw [if_pos z] at h; exact h
    · rw [if_neg z] at h; exact h
  · have o : opL t = 8 := by rw [e]; decide
    rw [if_neg (by omega), if_neg (by omega), if_neg (by omega), if_pos e] at h
    rw [o]
    refine ⟨fun z => by omega, fun z => by omega, fun z => by omega, fun z => by omega, fun _ => ⟨fun z => ?_, fun z => ?_⟩, fun z => by omega, fun _ _ _ _ z => absurd rfl z⟩
    · rw [if_neg z] at h; exact h
    · rw [if_pos z] at h; exact h
  · have o : opL t = 4 := by rw [e]; decide
    rw [if_neg (by omega), if_neg (by omega), if_neg (by omega), if_neg (by omega), if_pos e] at h
    rw [o]
    exact ⟨fun _ => h, fun z => by omega, fun z => by omega, fun z => by omega, fun z => by omega, fun z => by omega, fun z => absurd rfl z⟩
  · have o : opL t = 5 := by rw [e]; decide
    rw [if_neg (by omega), if_neg (by omega), if_neg (by omega), if_neg (by omega), if_neg (by omega), if_pos e] at h
    rw [o]
    exact ⟨fun z => by omega, fun _ => h, fun z => by omega, fun z => by omega, fun z => by omega, fun z => by omega, fun _ z => absurd rfl z⟩
  · have o : opL t = 6 := by rw [e]; decide
    rw [if_neg (by omega), if_neg (by omega), if_neg (by omega), if_neg (by omega), if_neg (by omega), if_neg (by omega)] at h
    rw [o]
    exact ⟨fun z => by omega, fun z => by omega, fun _ => h, fun z => by omega, fun z => by omega, fun z => by omega, fun _ _ z => absurd rfl z⟩
theorem p_worthR {op arg : Nat → Int32} {c : Nat} {C : List Int} (hc : cds op arg c C) (hl : c + C.length < 6600) {d m : Int} {v : Int32} (hv : rnO (zi d) (zi m) C [] = some [v]) : clW op arg c d m v := by
  intro facts pile post f0 f1 hp
  rw [wp_X12_worthAt]
  refine lp_inv (fun i s => ∃ (w : Nat → Int32) (S : List Int32), s = (w, zi S.length, zi ((c + i : Nat) : Int)) ∧ stk w S ∧ S.length ≤ 64 ∧ rnO (zi d) (zi m) (C.drop i) S = some [v]) C.length ?_ ?_ 0 (by omega) ⟨pile, [], rfl, trivial, by simp, hv⟩
  · rintro s ⟨w, S, rfl, hs, hS, hr⟩ kb
    rw [List.drop_length, rnO] at hr
    have eS : S = [v] := Option.some.inj hr
    subst eS
    dsimp only [wp_X12_worthAt_L4]
    rw [zi_cl (by omega), Int.toNat_natCast, hc.2, zi_in (by omega)]
    refine ⟨by omega, fun _ => ⟨by rw [show (0 : Int32) = zi 0 from rfl, zi_in (by omega)]; omega, ?_⟩, fun z => absurd rfl z⟩
    have e : w 0 = v := hs.1
    rw [show Int32.toNatClampNeg 0 = 0 from rfl, e]
    exact hp _
  · rintro i hi s ⟨w, S, rfl, hs, hS, hr⟩ kb hkb
    have o := hc.1 i hi
    rw [drop_getD hi, rnO, st1] at hr
    have hl' : c + i < 6600 := by omega
    generalize C.getD i 0 = a at hr o
    have inn : ∀ N : Nat, c + i < N → vp_in (zi ((c + i : Nat) : Int)) N := fun N hN => by rw [zi_in (by omega)]; omega
    have e1 : zi ((c + i : Nat) : Int) + 1 = zi ((c + (i + 1) : Nat) : Int) := by rw [zi_lit, zi_add]; congr 1
    have push : ∀ x, S.length < 64 → rnO (zi d) (zi m) (C.drop (i + 1)) (x :: S) = some [v] → (vp_in (zi S.length) 1100 ∧ (∀ t_pile_64 : Nat → Int32, t_pile_64 = upd w (Int32.toNatClampNeg (zi S.length)) x → (∀ y65 : Int32, y65 = zi S.length + 1 → (∀ y134 : Int32, y134 = zi ((c + i : Nat) : Int) + 1 → (kb (t_pile_64, y65, y134)))))) := by
      intro x h64 hx
      rw [zi_in (by omega), zi_cl (by omega), Int.toNat_natCast, e1]
      simp only [forall_eq]
      refine ⟨by omega, hkb _ ⟨_, x :: S, ?_, stk_push hs, by rw [List.length_cons]; omega, hx⟩⟩
      rw [List.length_cons, show zi (S.length : Int) + 1 = zi ((S.length + 1 : Nat) : Int) by rw [zi_lit, zi_add]; rfl]
    dsimp only [wp_X12_worthAt_L4]
    rw [zi_cl (by omega), Int.toNat_natCast, o.1]
    by_cases h0 : 0 ≤ a
    · rw [if_pos h0] at hr
      by_cases h1 : a ≤ 9999 ∧ S.length < 64
      rotate_left
      · rw [if_neg h1] at hr; exact absurd hr (fun z => nomatch z)
      rw [if_pos h1] at hr
      have eo : opI a = 1 := by rw [opI, if_pos h0]
      have ea : agI a = a := by rw [agI, if_pos h0]
      rw [ea] at o
      rw [eo]
      refine ⟨inn _ hl', fun z => absurd z (by decide), fun _ => ⟨inn _ hl', fun x19 e19 => ?_⟩⟩
      subst e19
      refine ⟨fun _ => ?_, fun z => absurd rfl z⟩
      rw [wp_X12_worthAt_b33]
      refine ⟨fun z => absurd rfl z, fun _ => ⟨inn _ hl', fun x64 e64 => ?_⟩⟩
      rw [zi_cl (by omega), Int.toNat_natCast, o.2] at e64
      subst e64
      exact push _ h1.2 hr
    rw [if_neg h0] at hr
    have fact : ∀ (n : Nat) (x : Int32), n < 2 → arg (c + i) = zi n → facts n = x → S.length < 64 → rnO (zi d) (zi m) (C.drop (i + 1)) (x :: S) = some [v] → wp_X12_worthAt_b33 (fun t_pile => vp_in 0 1100 ∧ post (t_pile (Int32.toNatClampNeg 0)) t_pile) kb op facts arg post w (zi S.length) (zi ((c + i : Nat) : Int)) (zi 2) := by
      intro n x hn ea ef h64 hx
      rw [wp_X12_worthAt_b33]
      refine ⟨fun _ => ⟨inn _ hl', fun x63 e63 => ?_⟩, fun z => absurd z (by decide)⟩
      rw [zi_cl (by omega), Int.toNat_natCast, ea] at e63
      subst e63
      refine ⟨by rw [zi_in (by omega)]; omega, fun x64 e64 => ?_⟩
      rw [zi_cl (by omega), Int.toNat_natCast, ef] at e64
      subst e64
      exact push _ h64 hx
    by_cases h2 : a = -21
    · rw [if_pos h2] at hr
      by_cases h1 : S.length < 64
      rotate_left
      · rw [if_neg h1] at hr; exact absurd hr (fun z => nomatch z)
      rw [if_pos h1] at hr
      have eo : opI a = 2 := by rw [h2]; decide
      have ea : agI a = 0 := by rw [h2]; decide
      rw [ea] at o
      rw [eo]
      refine ⟨inn _ hl', fun z => absurd z (by decide), fun _ => ⟨inn _ hl', fun x19 e19 => ?_⟩⟩
      subst e19
      exact ⟨fun z => absurd z (by decide), fun _ => ⟨fun z => absurd rfl z, fun _ => fact 0 (zi m) (by omega) o.2 f0 h1 hr⟩⟩
    rw [if_neg h2] at hr
    by_cases h3 : a = -22
    · rw [if_pos h3] at hr
      by_cases h1 : S.length < 64
      rotate_left
      · rw [if_neg h1] at hr; exact absurd hr (fun z => nomatch z)
      rw [if_pos h1] at hr
      have eo : opI a = 2 := by rw [h3]; decide
      have ea : agI a = 1 := by rw [h3]; decide
      rw [ea] at o
      rw [eo]
      refine ⟨inn _ hl', fun z => absurd z (by decide), fun _ => ⟨inn _ hl', fun x19 e19 => ?_⟩⟩
      subst e19
      exact ⟨fun z => absurd z (by decide), fun _ => ⟨fun z => absurd rfl z, fun _ => fact 1 (zi d) (by omega) o.2 f1 h1 hr⟩⟩
    rw [if_neg h3] at hr
    by_cases h4 : a = -20
    · rw [if_pos h4] at hr
      have eo : opI a = 3 := by rw [h4]; decide
      rw [eo]
      refine ⟨inn _ hl', fun z => absurd z (by decide), fun _ => ⟨inn _ hl', fun x19 e19 => ?_⟩⟩
      subst e19
      refine ⟨fun z => absurd z (by decide), fun _ => ⟨fun _ => ⟨fun z => absurd rfl z, fun _ => ?_⟩, fun z => absurd z (by decide)⟩⟩
      match S, hs, hS, hr with
      | [], hs, hS, hr => exact absurd hr (fun z => nomatch z)
      | x :: S, hs, hS, hr =>
        rw [List.length_cons] at hS
        have el : zi ((x :: S).length : Int) - 1 = zi S.length := by
          rw [List.length_cons, zi_lit, zi_sub]; congr 1; omega
        have sn : vp_in (zi S.length) 1100 := by rw [zi_in (by omega)]; omega
        have go : ∀ y, (if x = 0 then (1 : Int32) else 0) = y → kb (upd w S.length y, zi ((x :: S).length : Int), zi ((c + (i + 1) : Nat) : Int)) := by
          intro y hy
          exact hkb _ ⟨_, y :: S, rfl, stk_push hs.2, by rw [List.length_cons]; omega, by rw [← hy]; exact hr⟩
        simp only [forall_eq, el, zi_cl (show 0 ≤ (S.length : Int) ∧ (S.length : Int) < 2147483648 by omega), Int.toNat_natCast, hs.1, e1]
        exact ⟨sn, fun z => ⟨sn, go _ (if_neg z)⟩, fun z => ⟨sn, go _ (if_pos z)⟩⟩
    rw [if_neg h4] at hr
    by_cases h5 : lkT (-1 - a)
    rotate_left
    · rw [if_neg h5] at hr; exact absurd hr (fun z => nomatch z)
    rw [if_pos h5] at hr
    have eo : opI a = opL (-1 - a) := by rw [opI, if_neg h0, if_neg (by omega), if_neg h4]
    have r : 4 ≤ opL (-1 - a) ∧ opL (-1 - a) ≤ 10 := by
      rw [opL]
      repeat' split
      all_goals omega
    rw [eo]
    have ne : ∀ j : Int, 0 ≤ j → j < 4 → ¬ zi (opL (-1 - a)) = zi j := fun j j0 j1 z => by rw [zi_eq (by omega)] at z; omega
    refine ⟨inn _ hl', fun z => absurd z (ne 0 (by omega) (by omega)), fun _ => ⟨inn _ hl', fun x19 e19 => ?_⟩⟩
    subst e19
    refine ⟨fun z => absurd z (ne 1 (by omega) (by omega)), fun _ => ⟨fun _ => ⟨fun _ => ?_, fun z => absurd z (ne 3 (by omega) (by omega))⟩, fun z => absurd z (ne 2 (by omega) (by omega))⟩⟩
    match S, hs, hS, hr with
    | [], hs, hS, hr => exact absurd hr (fun z => nomatch z)
    | [x], hs, hS, hr => exact absurd hr (fun z => nomatch z)
    | y :: x :: S, hs, hS, hr =>
      rw [List.length_cons, List.length_cons] at hS
      have el : zi ((y :: x :: S).length : Int) + (-1) = zi ((S.length + 1 : Nat) : Int) := by
        rw [List.length_cons, List.length_cons, show (-1 : Int32) = zi (-1) from rfl, zi_add]; congr 1; omega
      have el2 : zi ((S.length + 1 : Nat) : Int) - 1 = zi S.length := by
        rw [zi_lit, zi_sub]; congr 1; omega
      have sn : vp_in (zi S.length) 1100 := by rw [zi_in (by omega)]; omega
      have sn2 : vp_in (zi ((S.length + 1 : Nat) : Int)) 1100 := by rw [zi_in (by omega)]; omega
      have y1 : w (S.length + 1) = y := hs.1
      simp only [forall_eq, el, el2, zi_cl (show 0 ≤ (S.length : Int) ∧ (S.length : Int) < 2147483648 by omega), zi_cl (show 0 ≤ ((S.length + 1 : Nat) : Int) ∧ ((S.length + 1 : Nat) : Int) < 2147483648 by omega), Int.toNat_natCast, hs.2.1, y1, e1]
      refine ⟨sn, sn2, p_linkR h5 ⟨sn, ?_⟩⟩
      exact hkb _ ⟨_, evB (-1 - a) x y :: S, rfl, stk_push hs.2.2, by rw [List.length_cons]; omega, hr⟩
end RV
