/-! the abstract walk -/
abbrev GG : Type := va_G × (Nat → ClassId)
def tyL (f : Nat → ClassId) : List (ClassId × FieldType) := [(f 0, .int), (f 1, .long), (f 2, .boolean), (f 3, .object "ShadySide$Sun"), (f 4, .object "ShadySide$Walker"), (f 5, .object "ShadySide$Town")]
abbrev Ctx : Type := Program × Launch × Env × Room × State × MethodId × Array Value × List Frame × Method × Code × GG × (Nat → Prop) × (State → Prop)
def lo_has (ls : Array Slot) (nL : Nat) (lo : List (Option Value)) : Prop := ls.size = nL ∧ lv_wf ls ∧ ∀ (i : Nat) (v : Value), lo[i]? = some (some v) → ls[i]? = some (.val v)
/-- the walk: any heap that holds the world and the pool, any locals that hold the list -/
def AW (X : Ctx) (nL k n : Nat) (ws : va_W) (pl : Pool) (pc : Nat) (lo : List (Option Value)) (st : List Value) : Prop :=
  match X with
  | (p, l, e, R, s, m, args, below, meth, c, g, A, Q) => ∀ (H : Heap) (locs : List Loc) (ls : Array Slot), va_P g.1 vwCl (ws ++ pl) H → va_D A (ws ++ pl) → va_S A s.heap H locs → lo_has ls nL lo → W p l e R s m args below meth c H locs k n Q (F0 m pc ls st)
/-- facts of cells that stay for ever (statics, constant texts): they hold at the start, of cells that this method may not change -/
def FzOk (Fz : (Nat → Prop) → State → Prop) : Prop := ∀ (A B : Nat → Prop) (s U : State), (s.vm = U.vm ∨ s.WarmedH U.vm) → (∀ q, B q → A q) → (∀ q : Nat, q < s.heap.size → ¬ A q → U.heap[q]? = s.heap[q]?) → Fz A s → Fz B U
abbrev Fz0 : (Nat → Prop) → State → Prop := fun _ _ => True
theorem Fz0_ok : FzOk Fz0 := fun _ _ _ _ _ _ _ _ => trivial
def Cok (X : Ctx) (cc : ByteArray) (nL : Nat) (own : String) (rm : Room) (Fz : (Nat → Prop) → State → Prop) : Prop :=
  match X with
  | (p, _, _, R, s, m, args, _, _, c, g, A, _) => p.tables.exec = Jvm.exec ∧ c.code = cc ∧ c.maxLocals = nL ∧ s.vm.findClass own = some m.cls ∧ (∀ w ∈ tb, w.before args s = true) ∧ va_K g.1 vwCl (tyL g.2) s ∧ (∀ q : Nat, s.heap.size ≤ q → A q) ∧ R = rm ∧ Fz A s
def cxL (X : Ctx) : Launch := X.2.1
def cxG (X : Ctx) : GG := X.2.2.2.2.2.2.2.2.2.2.1
theorem lo_lv {ls : Array Slot} {nL : Nat} {lo : List (Option Value)} (h : lo_has ls nL lo) : lv_has ls nL (lo.zipIdx.filterMap (fun q => q.1.map (fun v => (q.2, v)))) := by
  refine ⟨h.1, h.2.1, fun q hq => ?_⟩
  obtain ⟨x, hx, hx2⟩ := List.mem_filterMap.mp hq
  obtain ⟨o, i⟩ := x
  have h3 : lo[i]? = some o := by
    have h4 := List.mem_zipIdx_iff_getElem?.mp hx
    exact h4
  cases o with
  | none => simp at hx2
  | some v =>
    simp at hx2
    subst hx2
    exact h.2.2 i v h3
def okS (lo : List (Option Value)) : Nat → Bool
  | 0 => true
  | i + 1 => match lo[i]? with
    | some (some v) => v.category == 1
    | _ => true
theorem lo_set1 {ls : Array Slot} {nL i : Nat} {lo : List (Option Value)} {v : Value} {f : Nat × Value → Bool} (hf : f = fun q => !(q.1 == i) && !(q.1 + 1 == i && q.2.category == 2)) (h0 : okS lo i = true) (h : lv_has ls nL ((i, v) :: (lo.zipIdx.filterMap (fun q => q.1.map (fun v => (q.2, v)))).filter f)) : lo_has ls nL (lo.set i (some v)) := by
  subst hf
  refine ⟨h.1, h.2.1, fun j w hj => ?_⟩
  by_cases hji : i = j
  · subst hji
    have hlt : i < lo.length := by
      have := (List.getElem?_eq_some_iff.mp hj).1
      simpa using this
    rw [List.getElem?_set_self hlt] at hj
    cases hj
    exact h.2.2 _ List.mem_cons_self
  · rw [List.getElem?_set_ne hji] at hj
    refine h.2.2 (j, w) (List.mem_cons_of_mem _ (List.mem_filter.mpr ⟨List.mem_filterMap.mpr ⟨(some w, j), List.mem_zipIdx_iff_getElem?.mpr hj, rfl⟩, ?_⟩))
    have h1 : (j == i) = false := by simpa using fun z => hji z.symm
    by_cases h2 : j + 1 = i
    · subst h2
      simp only [okS, hj] at h0
      have h3 : w.category = 1 := by simpa using h0
      simp [h1, h3]
    · simp [h1, h2]
theorem lo_set2 {ls : Array Slot} {nL i : Nat} {lo : List (Option Value)} {v : Value} {f : Nat × Value → Bool} (hf : f = fun q => !(q.1 == i) && (!(q.1 == i + 1) && !(q.1 + 1 == i && q.2.category == 2))) (h0 : okS lo i = true) (h : lv_has ls nL ((i, v) :: (lo.zipIdx.filterMap (fun q => q.1.map (fun v => (q.2, v)))).filter f)) : lo_has ls nL ((lo.set i (some v)).set (i + 1) none) := by
  subst hf
  refine ⟨h.1, h.2.1, fun j w hj => ?_⟩
  by_cases hj1 : i + 1 = j
  · subst hj1
    by_cases hl : i + 1 < (lo.set i (some v)).length
    · rw [List.getElem?_set_self hl] at hj
      cases hj
    · rw [List.getElem?_eq_none (by simpa using hl)] at hj
      cases hj
  rw [List.getElem?_set_ne hj1] at hj
  by_cases hji : i = j
  · subst hji
    have hlt : i < lo.length := by
      have := (List.getElem?_eq_some_iff.mp hj).1
      simpa using this
    rw [List.getElem?_set_self hlt] at hj
    cases hj
    exact h.2.2 _ List.mem_cons_self
  · rw [List.getElem?_set_ne hji] at hj
    refine h.2.2 (j, w) (List.mem_cons_of_mem _ (List.mem_filter.mpr ⟨List.mem_filterMap.mpr ⟨(some w, j), List.mem_zipIdx_iff_getElem?.mpr hj, rfl⟩, ?_⟩))
    have h1 : (j == i) = false := by simpa using fun z => hji z.symm
    have h4 : (j == i + 1) = false := by simpa using fun z => hj1 z.symm
    by_cases h2 : j + 1 = i
    · subst h2
      simp only [okS, hj] at h0
      have h3 : w.category = 1 := by simpa using h0
      simp [h1, h3]
      omega
    · simp [h1, h2, h4]
def loA : List Value → List (Option Value)
  | [] => []
  | v :: vs => if v.category = 2 then some v :: none :: loA vs else some v :: loA vs
theorem loA_in : ∀ (vs : List Value) (o i : Nat) (v : Value), (loA vs)[i]? = some (some v) → (o + i, v) ∈ lv_args o vs
  | [], o, i, v, h => by simp [loA] at h
  | w :: vs, o, i, v, h => by
    by_cases hc : w.category = 2
    · simp only [loA, hc, if_true] at h
      match i, h with
      | 0, h => simp at h; subst h; exact List.mem_cons_self
      | 1, h => simp at h
      | i + 2, h =>
        have h2 := loA_in vs (o + 2) i v (by simpa using h)
        simp only [lv_args, hc, if_true]
        refine List.mem_cons_of_mem _ ?_
        rw [show o + (i + 2) = o + 2 + i by omega]
        exact h2
    · simp only [loA, hc, if_false] at h
      match i, h with
      | 0, h => simp at h; subst h; exact List.mem_cons_self
      | i + 1, h =>
        have h2 := loA_in vs (o + 1) i v (by simpa using h)
        simp only [lv_args, hc, if_false]
        refine List.mem_cons_of_mem _ ?_
        rw [show o + (i + 1) = o + 1 + i by omega]
        exact h2
def pick (ws : va_W) (is : List Nat) : va_W := is.filterMap (fun i => ws[i]?)
def inB (ws : va_W) (is : List Nat) : Bool := is.all (fun i => decide (i < ws.length))
theorem pick_map {ws : va_W} : ∀ {is : List Nat}, inB ws is = true → is.map (fun i => ws[i]?) = (pick ws is).map some
  | [], _ => rfl
  | i :: is, h => by
    simp only [inB, List.all_cons, Bool.and_eq_true, decide_eq_true_eq] at h
    have ih := pick_map (ws := ws) (is := is) h.2
    have e : ws[i]? = some ws[i] := List.getElem?_eq_getElem h.1
    simp only [List.map_cons, pick, List.filterMap_cons, e]
    rw [ih]
    rfl
theorem pick_at {ws : va_W} {is : List Nat} {k : Nat} {x : Nat × va_E} (h : (pick ws is)[k]? = some x) : ∃ i : Nat, ws[i]? = some x := by
  obtain ⟨i, -, hi⟩ := List.mem_filterMap.mp (List.mem_of_getElem? h)
  exact ⟨i, hi⟩

section AR
variable {X : Ctx} {cc : ByteArray} {nL k n : Nat} {own : String} {rm : Room} {Fz : (Nat → Prop) → State → Prop} {ws : va_W} {pl : Pool} {lo : List (Option Value)} {st : List Value} {pc : Nat}

theorem a_iadd (C : Cok X cc nL own rm Fz) {x y : Int32} (hd : decode cc pc = .ok (.iadd, 1))  (kk : AW X nL k n ws pl (pc + 1) lo (.int (x + y) :: st)) : AW X nL k n ws pl pc lo (.int y :: .int x :: st) := by
  obtain ⟨p, l, e, R, s, m, args, below, meth, c, g, A, Q⟩ := X
  obtain ⟨hx, hb, hml, hown, hts, hK, hA, hR, hF⟩ := C
  intro H locs ls hP hD hS hl
  exact lv_iadd hx hb hd (kk H locs ls hP hD hS hl)
theorem a_isub (C : Cok X cc nL own rm Fz) {x y : Int32} (hd : decode cc pc = .ok (.isub, 1))  (kk : AW X nL k n ws pl (pc + 1) lo (.int (x - y) :: st)) : AW X nL k n ws pl pc lo (.int y :: .int x :: st) := by
  obtain ⟨p, l, e, R, s, m, args, below, meth, c, g, A, Q⟩ := X
  obtain ⟨hx, hb, hml, hown, hts, hK, hA, hR, hF⟩ := C
  intro H locs ls hP hD hS hl
  exact lv_isub hx hb hd (kk H locs ls hP hD hS hl)
theorem a_imul (C : Cok X cc nL own rm Fz) {x y : Int32} (hd : decode cc pc = .ok (.imul, 1))  (kk : AW X nL k n ws pl (pc + 1) lo (.int (x * y) :: st)) : AW X nL k n ws pl pc lo (.int y :: .int x :: st) := by
  obtain ⟨p, l, e, R, s, m, args, below, meth, c, g, A, Q⟩ := X
  obtain ⟨hx, hb, hml, hown, hts, hK, hA, hR, hF⟩ := C
  intro H locs ls hP hD hS hl
  exact lv_imul hx hb hd (kk H locs ls hP hD hS hl)
theorem a_iand (C : Cok X cc nL own rm Fz) {x y : Int32} (hd : decode cc pc = .ok (.iand, 1))  (kk : AW X nL k n ws pl (pc + 1) lo (.int (x &&& y) :: st)) : AW X nL k n ws pl pc lo (.int y :: .int x :: st) := by
  obtain ⟨p, l, e, R, s, m, args, below, meth, c, g, A, Q⟩ := X
  obtain ⟨hx, hb, hml, hown, hts, hK, hA, hR, hF⟩ := C
  intro H locs ls hP hD hS hl
  exact lv_iand hx hb hd (kk H locs ls hP hD hS hl)
theorem a_ior (C : Cok X cc nL own rm Fz) {x y : Int32} (hd : decode cc pc = .ok (.ior, 1))  (kk : AW X nL k n ws pl (pc + 1) lo (.int (x ||| y) :: st)) : AW X nL k n ws pl pc lo (.int y :: .int x :: st) := by
  obtain ⟨p, l, e, R, s, m, args, below, meth, c, g, A, Q⟩ := X
  obtain ⟨hx, hb, hml, hown, hts, hK, hA, hR, hF⟩ := C
  intro H locs ls hP hD hS hl
  exact lv_ior hx hb hd (kk H locs ls hP hD hS hl)
theorem a_ixor (C : Cok X cc nL own rm Fz) {x y : Int32} (hd : decode cc pc = .ok (.ixor, 1))  (kk : AW X nL k n ws pl (pc + 1) lo (.int (x ^^^ y) :: st)) : AW X nL k n ws pl pc lo (.int y :: .int x :: st) := by
  obtain ⟨p, l, e, R, s, m, args, below, meth, c, g, A, Q⟩ := X
  obtain ⟨hx, hb, hml, hown, hts, hK, hA, hR, hF⟩ := C
  intro H locs ls hP hD hS hl
  exact lv_ixor hx hb hd (kk H locs ls hP hD hS hl)
theorem a_ishl (C : Cok X cc nL own rm Fz) {x y : Int32} (hd : decode cc pc = .ok (.ishl, 1))  (kk : AW X nL k n ws pl (pc + 1) lo (.int (x <<< (y &&& 31)) :: st)) : AW X nL k n ws pl pc lo (.int y :: .int x :: st) := by
  obtain ⟨p, l, e, R, s, m, args, below, meth, c, g, A, Q⟩ := X
  obtain ⟨hx, hb, hml, hown, hts, hK, hA, hR, hF⟩ := C
  intro H locs ls hP hD hS hl
  exact lv_ishl hx hb hd (kk H locs ls hP hD hS hl)
theorem a_ishr (C : Cok X cc nL own rm Fz) {x y : Int32} (hd : decode cc pc = .ok (.ishr, 1))  (kk : AW X nL k n ws pl (pc + 1) lo (.int (x >>> (y &&& 31)) :: st)) : AW X nL k n ws pl pc lo (.int y :: .int x :: st) := by
  obtain ⟨p, l, e, R, s, m, args, below, meth, c, g, A, Q⟩ := X
  obtain ⟨hx, hb, hml, hown, hts, hK, hA, hR, hF⟩ := C
  intro H locs ls hP hD hS hl
  exact lv_ishr hx hb hd (kk H locs ls hP hD hS hl)
theorem a_idiv (C : Cok X cc nL own rm Fz) {x y : Int32} (hd : decode cc pc = .ok (.idiv, 1)) (hne : ¬ y = 0) (kk : AW X nL k n ws pl (pc + 1) lo (.int (x / y) :: st)) : AW X nL k n ws pl pc lo (.int y :: .int x :: st) := by
  obtain ⟨p, l, e, R, s, m, args, below, meth, c, g, A, Q⟩ := X
  obtain ⟨hx, hb, hml, hown, hts, hK, hA, hR, hF⟩ := C
  intro H locs ls hP hD hS hl
  exact lv_idiv hx hb hd hne (kk H locs ls hP hD hS hl)
theorem a_irem (C : Cok X cc nL own rm Fz) {x y : Int32} (hd : decode cc pc = .ok (.irem, 1)) (hne : ¬ y = 0) (kk : AW X nL k n ws pl (pc + 1) lo (.int (x - x / y * y) :: st)) : AW X nL k n ws pl pc lo (.int y :: .int x :: st) := by
  obtain ⟨p, l, e, R, s, m, args, below, meth, c, g, A, Q⟩ := X
  obtain ⟨hx, hb, hml, hown, hts, hK, hA, hR, hF⟩ := C
  intro H locs ls hP hD hS hl
  exact lv_irem hx hb hd hne (kk H locs ls hP hD hS hl)
theorem a_ladd (C : Cok X cc nL own rm Fz) {x y : Int64} (hd : decode cc pc = .ok (.ladd, 1))  (kk : AW X nL k n ws pl (pc + 1) lo (.long (x + y) :: st)) : AW X nL k n ws pl pc lo (.long y :: .long x :: st) := by
  obtain ⟨p, l, e, R, s, m, args, below, meth, c, g, A, Q⟩ := X
  obtain ⟨hx, hb, hml, hown, hts, hK, hA, hR, hF⟩ := C
  intro H locs ls hP hD hS hl
  exact lv_ladd hx hb hd (kk H locs ls hP hD hS hl)
theorem a_lsub (C : Cok X cc nL own rm Fz) {x y : Int64} (hd : decode cc pc = .ok (.lsub, 1))  (kk : AW X nL k n ws pl (pc + 1) lo (.long (x - y) :: st)) : AW X nL k n ws pl pc lo (.long y :: .long x :: st) := by
  obtain ⟨p, l, e, R, s, m, args, below, meth, c, g, A, Q⟩ := X
  obtain ⟨hx, hb, hml, hown, hts, hK, hA, hR, hF⟩ := C
  intro H locs ls hP hD hS hl
  exact lv_lsub hx hb hd (kk H locs ls hP hD hS hl)
theorem a_lmul (C : Cok X cc nL own rm Fz) {x y : Int64} (hd : decode cc pc = .ok (.lmul, 1))  (kk : AW X nL k n ws pl (pc + 1) lo (.long (x * y) :: st)) : AW X nL k n ws pl pc lo (.long y :: .long x :: st) := by
  obtain ⟨p, l, e, R, s, m, args, below, meth, c, g, A, Q⟩ := X
  obtain ⟨hx, hb, hml, hown, hts, hK, hA, hR, hF⟩ := C
  intro H locs ls hP hD hS hl
  exact lv_lmul hx hb hd (kk H locs ls hP hD hS hl)
theorem a_land (C : Cok X cc nL own rm Fz) {x y : Int64} (hd : decode cc pc = .ok (.land, 1))  (kk : AW X nL k n ws pl (pc + 1) lo (.long (x &&& y) :: st)) : AW X nL k n ws pl pc lo (.long y :: .long x :: st) := by
  obtain ⟨p, l, e, R, s, m, args, below, meth, c, g, A, Q⟩ := X
  obtain ⟨hx, hb, hml, hown, hts, hK, hA, hR, hF⟩ := C
  intro H locs ls hP hD hS hl
  exact lv_land hx hb hd (kk H locs ls hP hD hS hl)
theorem a_lor (C : Cok X cc nL own rm Fz) {x y : Int64} (hd : decode cc pc = .ok (.lor, 1))  (kk : AW X nL k n ws pl (pc + 1) lo (.long (x ||| y) :: st)) : AW X nL k n ws pl pc lo (.long y :: .long x :: st) := by
  obtain ⟨p, l, e, R, s, m, args, below, meth, c, g, A, Q⟩ := X
  obtain ⟨hx, hb, hml, hown, hts, hK, hA, hR, hF⟩ := C
  intro H locs ls hP hD hS hl
  exact lv_lor hx hb hd (kk H locs ls hP hD hS hl)
theorem a_lxor (C : Cok X cc nL own rm Fz) {x y : Int64} (hd : decode cc pc = .ok (.lxor, 1))  (kk : AW X nL k n ws pl (pc + 1) lo (.long (x ^^^ y) :: st)) : AW X nL k n ws pl pc lo (.long y :: .long x :: st) := by
  obtain ⟨p, l, e, R, s, m, args, below, meth, c, g, A, Q⟩ := X
  obtain ⟨hx, hb, hml, hown, hts, hK, hA, hR, hF⟩ := C
  intro H locs ls hP hD hS hl
  exact lv_lxor hx hb hd (kk H locs ls hP hD hS hl)
theorem a_ldiv (C : Cok X cc nL own rm Fz) {x y : Int64} (hd : decode cc pc = .ok (.ldiv, 1)) (hne : ¬ y = 0) (kk : AW X nL k n ws pl (pc + 1) lo (.long (x / y) :: st)) : AW X nL k n ws pl pc lo (.long y :: .long x :: st) := by
  obtain ⟨p, l, e, R, s, m, args, below, meth, c, g, A, Q⟩ := X
  obtain ⟨hx, hb, hml, hown, hts, hK, hA, hR, hF⟩ := C
  intro H locs ls hP hD hS hl
  exact lv_ldiv hx hb hd hne (kk H locs ls hP hD hS hl)
theorem a_lrem (C : Cok X cc nL own rm Fz) {x y : Int64} (hd : decode cc pc = .ok (.lrem, 1)) (hne : ¬ y = 0) (kk : AW X nL k n ws pl (pc + 1) lo (.long (x - x / y * y) :: st)) : AW X nL k n ws pl pc lo (.long y :: .long x :: st) := by
  obtain ⟨p, l, e, R, s, m, args, below, meth, c, g, A, Q⟩ := X
  obtain ⟨hx, hb, hml, hown, hts, hK, hA, hR, hF⟩ := C
  intro H locs ls hP hD hS hl
  exact lv_lrem hx hb hd hne (kk H locs ls hP hD hS hl)
theorem a_ineg (C : Cok X cc nL own rm Fz) {x : Int32} (hd : decode cc pc = .ok (.ineg, 1))  (kk : AW X nL k n ws pl (pc + 1) lo (.int (-x) :: st)) : AW X nL k n ws pl pc lo (.int x :: st) := by
  obtain ⟨p, l, e, R, s, m, args, below, meth, c, g, A, Q⟩ := X
  obtain ⟨hx, hb, hml, hown, hts, hK, hA, hR, hF⟩ := C
  intro H locs ls hP hD hS hl
  exact lv_ineg hx hb hd (kk H locs ls hP hD hS hl)
theorem a_lneg (C : Cok X cc nL own rm Fz) {x : Int64} (hd : decode cc pc = .ok (.lneg, 1))  (kk : AW X nL k n ws pl (pc + 1) lo (.long (-x) :: st)) : AW X nL k n ws pl pc lo (.long x :: st) := by
  obtain ⟨p, l, e, R, s, m, args, below, meth, c, g, A, Q⟩ := X
  obtain ⟨hx, hb, hml, hown, hts, hK, hA, hR, hF⟩ := C
  intro H locs ls hP hD hS hl
  exact lv_lneg hx hb hd (kk H locs ls hP hD hS hl)
theorem a_i2l (C : Cok X cc nL own rm Fz) {x : Int32} (hd : decode cc pc = .ok (.i2l, 1))  (kk : AW X nL k n ws pl (pc + 1) lo (.long x.toInt64 :: st)) : AW X nL k n ws pl pc lo (.int x :: st) := by
  obtain ⟨p, l, e, R, s, m, args, below, meth, c, g, A, Q⟩ := X
  obtain ⟨hx, hb, hml, hown, hts, hK, hA, hR, hF⟩ := C
  intro H locs ls hP hD hS hl
  exact lv_i2l hx hb hd rfl (kk H locs ls hP hD hS hl)
theorem a_l2i (C : Cok X cc nL own rm Fz) {x : Int64} (hd : decode cc pc = .ok (.l2i, 1))  (kk : AW X nL k n ws pl (pc + 1) lo (.int x.toInt32 :: st)) : AW X nL k n ws pl pc lo (.long x :: st) := by
  obtain ⟨p, l, e, R, s, m, args, below, meth, c, g, A, Q⟩ := X
  obtain ⟨hx, hb, hml, hown, hts, hK, hA, hR, hF⟩ := C
  intro H locs ls hP hD hS hl
  exact lv_l2i hx hb hd rfl (kk H locs ls hP hD hS hl)
theorem a_i2c (C : Cok X cc nL own rm Fz) {x : Int32} (hd : decode cc pc = .ok (.i2c, 1))  (kk : AW X nL k n ws pl (pc + 1) lo (.int (x.toUInt32 % 65536).toInt32 :: st)) : AW X nL k n ws pl pc lo (.int x :: st) := by
  obtain ⟨p, l, e, R, s, m, args, below, meth, c, g, A, Q⟩ := X
  obtain ⟨hx, hb, hml, hown, hts, hK, hA, hR, hF⟩ := C
  intro H locs ls hP hD hS hl
  exact lv_i2c hx hb hd rfl (kk H locs ls hP hD hS hl)
theorem a_i2b (C : Cok X cc nL own rm Fz) {x : Int32} (hd : decode cc pc = .ok (.i2b, 1))  (kk : AW X nL k n ws pl (pc + 1) lo (.int x.toInt8.toInt32 :: st)) : AW X nL k n ws pl pc lo (.int x :: st) := by
  obtain ⟨p, l, e, R, s, m, args, below, meth, c, g, A, Q⟩ := X
  obtain ⟨hx, hb, hml, hown, hts, hK, hA, hR, hF⟩ := C
  intro H locs ls hP hD hS hl
  exact lv_i2b hx hb hd rfl (kk H locs ls hP hD hS hl)
theorem a_iushr (C : Cok X cc nL own rm Fz) {x y : Int32} (hd : decode cc pc = .ok (.iushr, 1))  (kk : AW X nL k n ws pl (pc + 1) lo (.int (x.toUInt32 >>> (y.toUInt32 &&& Int32.toUInt32 31)).toInt32 :: st)) : AW X nL k n ws pl pc lo (.int y :: .int x :: st) := by
  obtain ⟨p, l, e, R, s, m, args, below, meth, c, g, A, Q⟩ := X
  obtain ⟨hx, hb, hml, hown, hts, hK, hA, hR, hF⟩ := C
  intro H locs ls hP hD hS hl
  exact lv_iushr hx hb hd rfl (kk H locs ls hP hD hS hl)
theorem a_lushr (C : Cok X cc nL own rm Fz) {x : Int64} {y : Int32} (hd : decode cc pc = .ok (.lushr, 1))  (kk : AW X nL k n ws pl (pc + 1) lo (.long (x.toUInt64 >>> (y.toInt64.toUInt64 &&& Int64.toUInt64 63)).toInt64 :: st)) : AW X nL k n ws pl pc lo (.int y :: .long x :: st) := by
  obtain ⟨p, l, e, R, s, m, args, below, meth, c, g, A, Q⟩ := X
  obtain ⟨hx, hb, hml, hown, hts, hK, hA, hR, hF⟩ := C
  intro H locs ls hP hD hS hl
  exact lv_lushr hx hb hd rfl (kk H locs ls hP hD hS hl)
theorem a_lshl (C : Cok X cc nL own rm Fz) {x : Int64} {y : Int32} (hd : decode cc pc = .ok (.lshl, 1))  (kk : AW X nL k n ws pl (pc + 1) lo (.long (x <<< (y.toInt64 &&& 63)) :: st)) : AW X nL k n ws pl pc lo (.int y :: .long x :: st) := by
  obtain ⟨p, l, e, R, s, m, args, below, meth, c, g, A, Q⟩ := X
  obtain ⟨hx, hb, hml, hown, hts, hK, hA, hR, hF⟩ := C
  intro H locs ls hP hD hS hl
  exact lv_lshl hx hb hd rfl (kk H locs ls hP hD hS hl)
theorem a_lshr (C : Cok X cc nL own rm Fz) {x : Int64} {y : Int32} (hd : decode cc pc = .ok (.lshr, 1))  (kk : AW X nL k n ws pl (pc + 1) lo (.long (x >>> (y.toInt64 &&& 63)) :: st)) : AW X nL k n ws pl pc lo (.int y :: .long x :: st) := by
  obtain ⟨p, l, e, R, s, m, args, below, meth, c, g, A, Q⟩ := X
  obtain ⟨hx, hb, hml, hown, hts, hK, hA, hR, hF⟩ := C
  intro H locs ls hP hD hS hl
  exact lv_lshr hx hb hd rfl (kk H locs ls hP hD hS hl)
theorem a_lcmp (C : Cok X cc nL own rm Fz) {x y : Int64} (hd : decode cc pc = .ok (.lcmp, 1))  (kk : AW X nL k n ws pl (pc + 1) lo (.int (lg_cmp x y) :: st)) : AW X nL k n ws pl pc lo (.long y :: .long x :: st) := by
  obtain ⟨p, l, e, R, s, m, args, below, meth, c, g, A, Q⟩ := X
  obtain ⟨hx, hb, hml, hown, hts, hK, hA, hR, hF⟩ := C
  intro H locs ls hP hD hS hl
  exact W.lcmp hx hb hd (kk H locs ls hP hD hS hl)
theorem a_iconst (C : Cok X cc nL own rm Fz) {i : Int} {v : Int32} (hd : decode cc pc = .ok (.iconst i, 1)) (hv : Int32.ofInt i = v) (kk : AW X nL k n ws pl (pc + 1) lo (.int v :: st)) : AW X nL k n ws pl pc lo (st) := by
  obtain ⟨p, l, e, R, s, m, args, below, meth, c, g, A, Q⟩ := X
  obtain ⟨hx, hb, hml, hown, hts, hK, hA, hR, hF⟩ := C
  intro H locs ls hP hD hS hl
  exact lv_iconst hx hb hd hv (kk H locs ls hP hD hS hl)
theorem a_bipush (C : Cok X cc nL own rm Fz) {i : Int} {v : Int32} (hd : decode cc pc = .ok (.bipush i, 2)) (hv : (Int8.ofInt i).toInt32 = v) (kk : AW X nL k n ws pl (pc + 2) lo (.int v :: st)) : AW X nL k n ws pl pc lo (st) := by
  obtain ⟨p, l, e, R, s, m, args, below, meth, c, g, A, Q⟩ := X
  obtain ⟨hx, hb, hml, hown, hts, hK, hA, hR, hF⟩ := C
  intro H locs ls hP hD hS hl
  exact lv_bipush hx hb hd hv (kk H locs ls hP hD hS hl)
theorem a_sipush (C : Cok X cc nL own rm Fz) {i : Int} {v : Int32} (hd : decode cc pc = .ok (.sipush i, 3)) (hv : (Int16.ofInt i).toInt32 = v) (kk : AW X nL k n ws pl (pc + 3) lo (.int v :: st)) : AW X nL k n ws pl pc lo (st) := by
  obtain ⟨p, l, e, R, s, m, args, below, meth, c, g, A, Q⟩ := X
  obtain ⟨hx, hb, hml, hown, hts, hK, hA, hR, hF⟩ := C
  intro H locs ls hP hD hS hl
  exact lv_sipush hx hb hd hv (kk H locs ls hP hD hS hl)
theorem a_lconst (C : Cok X cc nL own rm Fz) {i : Fin 2} {v : Int64} (hd : decode cc pc = .ok (.lconst i, 1)) (hv : Int64.ofNat (i : Nat) = v) (kk : AW X nL k n ws pl (pc + 1) lo (.long v :: st)) : AW X nL k n ws pl pc lo (st) := by
  obtain ⟨p, l, e, R, s, m, args, below, meth, c, g, A, Q⟩ := X
  obtain ⟨hx, hb, hml, hown, hts, hK, hA, hR, hF⟩ := C
  intro H locs ls hP hD hS hl
  exact lv_lconst hx hb hd hv (kk H locs ls hP hD hS hl)
theorem a_ldc (C : Cok X cc nL own rm Fz) {i : Nat} {v : Int32} (hd : decode cc pc = .ok (.ldc i, 2)) (hw : Cond.constant own i v ∈ tb) (kk : AW X nL k n ws pl (pc + 2) lo (.int v :: st)) : AW X nL k n ws pl pc lo (st) := by
  obtain ⟨p, l, e, R, s, m, args, below, meth, c, g, A, Q⟩ := X
  obtain ⟨hx, hb, hml, hown, hts, hK, hA, hR, hF⟩ := C
  intro H locs ls hP hD hS hl
  exact lv_ldc hx hb hown (hts _ hw) hd (kk H locs ls hP hD hS hl)
theorem a_ldcw (C : Cok X cc nL own rm Fz) {i : Nat} {v : Int32} (hd : decode cc pc = .ok (.ldc_w i, 3)) (hw : Cond.constant own i v ∈ tb) (kk : AW X nL k n ws pl (pc + 3) lo (.int v :: st)) : AW X nL k n ws pl pc lo (st) := by
  obtain ⟨p, l, e, R, s, m, args, below, meth, c, g, A, Q⟩ := X
  obtain ⟨hx, hb, hml, hown, hts, hK, hA, hR, hF⟩ := C
  intro H locs ls hP hD hS hl
  exact lv_ldcw hx hb hown (hts _ hw) hd (kk H locs ls hP hD hS hl)
theorem a_ldc2 (C : Cok X cc nL own rm Fz) {i : Nat} {v : Int64} (hd : decode cc pc = .ok (.ldc2_w i, 3)) (hw : Cond.constantLong own i v ∈ tb) (kk : AW X nL k n ws pl (pc + 3) lo (.long v :: st)) : AW X nL k n ws pl pc lo (st) := by
  obtain ⟨p, l, e, R, s, m, args, below, meth, c, g, A, Q⟩ := X
  obtain ⟨hx, hb, hml, hown, hts, hK, hA, hR, hF⟩ := C
  intro H locs ls hP hD hS hl
  exact lv_ldc2 hx hb hown (hts _ hw) hd (kk H locs ls hP hD hS hl)
theorem a_null (C : Cok X cc nL own rm Fz)  (hd : decode cc pc = .ok (.aconst_null, 1))  (kk : AW X nL k n ws pl (pc + 1) lo (.null :: st)) : AW X nL k n ws pl pc lo (st) := by
  obtain ⟨p, l, e, R, s, m, args, below, meth, c, g, A, Q⟩ := X
  obtain ⟨hx, hb, hml, hown, hts, hK, hA, hR, hF⟩ := C
  intro H locs ls hP hD hS hl
  exact lv_null hx hb hd (kk H locs ls hP hD hS hl)
theorem a_iload_n (C : Cok X cc nL own rm Fz) {j : Fin 4} {i : Nat} {x : Int32} (hd : decode cc pc = .ok (.iload_n j, 1)) (hi : (j : Nat) = i) (hv : lo[i]? = some (some (.int x))) (kk : AW X nL k n ws pl (pc + 1) lo (.int x :: st)) : AW X nL k n ws pl pc lo (st) := by
  obtain ⟨p, l, e, R, s, m, args, below, meth, c, g, A, Q⟩ := X
  obtain ⟨hx, hb, hml, hown, hts, hK, hA, hR, hF⟩ := C
  intro H locs ls hP hD hS hl
  exact lv_iload_n hx hb hd hi (hl.2.2 i _ hv) (kk H locs ls hP hD hS hl)
theorem a_iload (C : Cok X cc nL own rm Fz) {i : Nat} {x : Int32} (hd : decode cc pc = .ok (.iload i, 2)) (hv : lo[i]? = some (some (.int x))) (kk : AW X nL k n ws pl (pc + 2) lo (.int x :: st)) : AW X nL k n ws pl pc lo (st) := by
  obtain ⟨p, l, e, R, s, m, args, below, meth, c, g, A, Q⟩ := X
  obtain ⟨hx, hb, hml, hown, hts, hK, hA, hR, hF⟩ := C
  intro H locs ls hP hD hS hl
  exact lv_iload hx hb hd (hl.2.2 i _ hv) (kk H locs ls hP hD hS hl)
theorem a_istore_n (C : Cok X cc nL own rm Fz) {j : Fin 4} {i : Nat} {x : Int32} (hd : decode cc pc = .ok (.istore_n j, 1)) (hi : (j : Nat) = i) (hn : i < nL) (h0 : okS lo i = true) (kk : AW X nL k n ws pl (pc + 1) (lo.set i (some (.int x))) st) : AW X nL k n ws pl pc lo (.int x :: st) := by
  obtain ⟨p, l, e, R, s, m, args, below, meth, c, g, A, Q⟩ := X
  obtain ⟨hx, hb, hml, hown, hts, hK, hA, hR, hF⟩ := C
  intro H locs ls hP hD hS hl
  exact lv_istore_n hx hb hd hi (lo_lv hl) hn rfl (fun ls hl => kk H locs ls hP hD hS (lo_set1 rfl h0 hl))
theorem a_istore (C : Cok X cc nL own rm Fz) {i : Nat} {x : Int32} (hd : decode cc pc = .ok (.istore i, 2)) (hn : i < nL) (h0 : okS lo i = true) (kk : AW X nL k n ws pl (pc + 2) (lo.set i (some (.int x))) st) : AW X nL k n ws pl pc lo (.int x :: st) := by
  obtain ⟨p, l, e, R, s, m, args, below, meth, c, g, A, Q⟩ := X
  obtain ⟨hx, hb, hml, hown, hts, hK, hA, hR, hF⟩ := C
  intro H locs ls hP hD hS hl
  exact lv_istore hx hb hd (lo_lv hl) hn rfl (fun ls hl => kk H locs ls hP hD hS (lo_set1 rfl h0 hl))
theorem a_lload_n (C : Cok X cc nL own rm Fz) {j : Fin 4} {i : Nat} {x : Int64} (hd : decode cc pc = .ok (.lload_n j, 1)) (hi : (j : Nat) = i) (hv : lo[i]? = some (some (.long x))) (kk : AW X nL k n ws pl (pc + 1) lo (.long x :: st)) : AW X nL k n ws pl pc lo (st) := by
  obtain ⟨p, l, e, R, s, m, args, below, meth, c, g, A, Q⟩ := X
  obtain ⟨hx, hb, hml, hown, hts, hK, hA, hR, hF⟩ := C
  intro H locs ls hP hD hS hl
  exact lv_lload_n hx hb hd hi (hl.2.2 i _ hv) (kk H locs ls hP hD hS hl)
theorem a_lload (C : Cok X cc nL own rm Fz) {i : Nat} {x : Int64} (hd : decode cc pc = .ok (.lload i, 2)) (hv : lo[i]? = some (some (.long x))) (kk : AW X nL k n ws pl (pc + 2) lo (.long x :: st)) : AW X nL k n ws pl pc lo (st) := by
  obtain ⟨p, l, e, R, s, m, args, below, meth, c, g, A, Q⟩ := X
  obtain ⟨hx, hb, hml, hown, hts, hK, hA, hR, hF⟩ := C
  intro H locs ls hP hD hS hl
  exact lv_lload hx hb hd (hl.2.2 i _ hv) (kk H locs ls hP hD hS hl)
theorem a_lstore_n (C : Cok X cc nL own rm Fz) {j : Fin 4} {i : Nat} {x : Int64} (hd : decode cc pc = .ok (.lstore_n j, 1)) (hi : (j : Nat) = i) (hn : i + 1 < nL) (h0 : okS lo i = true) (kk : AW X nL k n ws pl (pc + 1) ((lo.set i (some (.long x))).set (i + 1) none) st) : AW X nL k n ws pl pc lo (.long x :: st) := by
  obtain ⟨p, l, e, R, s, m, args, below, meth, c, g, A, Q⟩ := X
  obtain ⟨hx, hb, hml, hown, hts, hK, hA, hR, hF⟩ := C
  intro H locs ls hP hD hS hl
  exact lv_lstore_n hx hb hd hi (lo_lv hl) hn rfl (fun ls hl => kk H locs ls hP hD hS (lo_set2 rfl h0 hl))
theorem a_lstore (C : Cok X cc nL own rm Fz) {i : Nat} {x : Int64} (hd : decode cc pc = .ok (.lstore i, 2)) (hn : i + 1 < nL) (h0 : okS lo i = true) (kk : AW X nL k n ws pl (pc + 2) ((lo.set i (some (.long x))).set (i + 1) none) st) : AW X nL k n ws pl pc lo (.long x :: st) := by
  obtain ⟨p, l, e, R, s, m, args, below, meth, c, g, A, Q⟩ := X
  obtain ⟨hx, hb, hml, hown, hts, hK, hA, hR, hF⟩ := C
  intro H locs ls hP hD hS hl
  exact lv_lstore hx hb hd (lo_lv hl) hn rfl (fun ls hl => kk H locs ls hP hD hS (lo_set2 rfl h0 hl))
theorem a_aload_n (C : Cok X cc nL own rm Fz) {j : Fin 4} {i : Nat} {x : Nat} (hd : decode cc pc = .ok (.aload_n j, 1)) (hi : (j : Nat) = i) (hv : lo[i]? = some (some (.ref x))) (kk : AW X nL k n ws pl (pc + 1) lo (.ref x :: st)) : AW X nL k n ws pl pc lo (st) := by
  obtain ⟨p, l, e, R, s, m, args, below, meth, c, g, A, Q⟩ := X
  obtain ⟨hx, hb, hml, hown, hts, hK, hA, hR, hF⟩ := C
  intro H locs ls hP hD hS hl
  exact lv_aload_n hx hb hd hi (hl.2.2 i _ hv) (kk H locs ls hP hD hS hl)
theorem a_aload (C : Cok X cc nL own rm Fz) {i : Nat} {x : Nat} (hd : decode cc pc = .ok (.aload i, 2)) (hv : lo[i]? = some (some (.ref x))) (kk : AW X nL k n ws pl (pc + 2) lo (.ref x :: st)) : AW X nL k n ws pl pc lo (st) := by
  obtain ⟨p, l, e, R, s, m, args, below, meth, c, g, A, Q⟩ := X
  obtain ⟨hx, hb, hml, hown, hts, hK, hA, hR, hF⟩ := C
  intro H locs ls hP hD hS hl
  exact lv_aload hx hb hd (hl.2.2 i _ hv) (kk H locs ls hP hD hS hl)
theorem a_astore_n (C : Cok X cc nL own rm Fz) {j : Fin 4} {i : Nat} {x : Nat} (hd : decode cc pc = .ok (.astore_n j, 1)) (hi : (j : Nat) = i) (hn : i < nL) (h0 : okS lo i = true) (kk : AW X nL k n ws pl (pc + 1) (lo.set i (some (.ref x))) st) : AW X nL k n ws pl pc lo (.ref x :: st) := by
  obtain ⟨p, l, e, R, s, m, args, below, meth, c, g, A, Q⟩ := X
  obtain ⟨hx, hb, hml, hown, hts, hK, hA, hR, hF⟩ := C
  intro H locs ls hP hD hS hl
  exact lv_astore_n hx hb hd hi (lo_lv hl) hn rfl (fun ls hl => kk H locs ls hP hD hS (lo_set1 rfl h0 hl))
theorem a_astore (C : Cok X cc nL own rm Fz) {i : Nat} {x : Nat} (hd : decode cc pc = .ok (.astore i, 2)) (hn : i < nL) (h0 : okS lo i = true) (kk : AW X nL k n ws pl (pc + 2) (lo.set i (some (.ref x))) st) : AW X nL k n ws pl pc lo (.ref x :: st) := by
  obtain ⟨p, l, e, R, s, m, args, below, meth, c, g, A, Q⟩ := X
  obtain ⟨hx, hb, hml, hown, hts, hK, hA, hR, hF⟩ := C
  intro H locs ls hP hD hS hl
  exact lv_astore hx hb hd (lo_lv hl) hn rfl (fun ls hl => kk H locs ls hP hD hS (lo_set1 rfl h0 hl))
theorem a_aload_nN (C : Cok X cc nL own rm Fz) {j : Fin 4} {i : Nat} (hd : decode cc pc = .ok (.aload_n j, 1)) (hi : (j : Nat) = i) (hv : lo[i]? = some (some .null)) (kk : AW X nL k n ws pl (pc + 1) lo (.null :: st)) : AW X nL k n ws pl pc lo (st) := by
  obtain ⟨p, l, e, R, s, m, args, below, meth, c, g, A, Q⟩ := X
  obtain ⟨hx, hb, hml, hown, hts, hK, hA, hR, hF⟩ := C
  intro H locs ls hP hD hS hl
  exact lv_aload_nN hx hb hd hi (hl.2.2 i _ hv) (kk H locs ls hP hD hS hl)
theorem a_aloadN (C : Cok X cc nL own rm Fz) {i : Nat} (hd : decode cc pc = .ok (.aload i, 2)) (hv : lo[i]? = some (some .null)) (kk : AW X nL k n ws pl (pc + 2) lo (.null :: st)) : AW X nL k n ws pl pc lo (st) := by
  obtain ⟨p, l, e, R, s, m, args, below, meth, c, g, A, Q⟩ := X
  obtain ⟨hx, hb, hml, hown, hts, hK, hA, hR, hF⟩ := C
  intro H locs ls hP hD hS hl
  exact lv_aloadN hx hb hd (hl.2.2 i _ hv) (kk H locs ls hP hD hS hl)
theorem a_astore_nN (C : Cok X cc nL own rm Fz) {j : Fin 4} {i : Nat} (hd : decode cc pc = .ok (.astore_n j, 1)) (hi : (j : Nat) = i) (hn : i < nL) (h0 : okS lo i = true) (kk : AW X nL k n ws pl (pc + 1) (lo.set i (some .null)) st) : AW X nL k n ws pl pc lo (.null :: st) := by
  obtain ⟨p, l, e, R, s, m, args, below, meth, c, g, A, Q⟩ := X
  obtain ⟨hx, hb, hml, hown, hts, hK, hA, hR, hF⟩ := C
  intro H locs ls hP hD hS hl
  exact lv_astore_nN hx hb hd hi (lo_lv hl) hn rfl (fun ls hl => kk H locs ls hP hD hS (lo_set1 rfl h0 hl))
theorem a_astoreN (C : Cok X cc nL own rm Fz) {i : Nat} (hd : decode cc pc = .ok (.astore i, 2)) (hn : i < nL) (h0 : okS lo i = true) (kk : AW X nL k n ws pl (pc + 2) (lo.set i (some .null)) st) : AW X nL k n ws pl pc lo (.null :: st) := by
  obtain ⟨p, l, e, R, s, m, args, below, meth, c, g, A, Q⟩ := X
  obtain ⟨hx, hb, hml, hown, hts, hK, hA, hR, hF⟩ := C
  intro H locs ls hP hD hS hl
  exact lv_astoreN hx hb hd (lo_lv hl) hn rfl (fun ls hl => kk H locs ls hP hD hS (lo_set1 rfl h0 hl))
theorem lo_idx {lo : List (Option Value)} {i : Nat} {v : Value} (h : lo[i]? = some (some v)) : ∃ j : Nat, (lo.zipIdx.filterMap (fun q => q.1.map (fun v => (q.2, v))))[j]? = some (i, v) :=
  List.getElem?_of_mem (List.mem_filterMap.mpr ⟨(some v, i), List.mem_zipIdx_iff_getElem?.mpr h, rfl⟩)
theorem a_iinc (C : Cok X cc nL own rm Fz) {i : Nat} {d : Int} {x v : Int32} (hd : decode cc pc = .ok (.iinc i d, 3)) (hv : lo[i]? = some (some (.int x))) (he : Int32.ofInt d = v) (hn : i < nL) (h0 : okS lo i = true) (kk : AW X nL k n ws pl (pc + 3) (lo.set i (some (.int (x + v)))) st) : AW X nL k n ws pl pc lo st := by
  obtain ⟨p, l, e, R, s, m, args, below, meth, c, g, A, Q⟩ := X
  obtain ⟨hx, hb, hml, hown, hts, hK, hA, hR, hF⟩ := C
  intro H locs ls hP hD hS hl
  obtain ⟨j, hj⟩ := lo_idx hv
  exact lv_iinc hx hb hd (lo_lv hl) hj (by rw [he]) hn rfl (fun ls hl => kk H locs ls hP hD hS (lo_set1 rfl h0 hl))
theorem a_dup (C : Cok X cc nL own rm Fz) {v : Value} (hd : decode cc pc = .ok (.dup, 1)) (hv : v.category = 1) (kk : AW X nL k n ws pl (pc + 1) lo (v :: v :: st)) : AW X nL k n ws pl pc lo (v :: st) := by
  obtain ⟨p, l, e, R, s, m, args, below, meth, c, g, A, Q⟩ := X
  obtain ⟨hx, hb, hml, hown, hts, hK, hA, hR, hF⟩ := C
  intro H locs ls hP hD hS hl
  exact lv_dup hx hb hd hv (kk H locs ls hP hD hS hl)
theorem a_dup2_11 (C : Cok X cc nL own rm Fz) {v w : Value} (hd : decode cc pc = .ok (.dup2, 1)) (hv : v.category = 1) (hw : w.category = 1) (kk : AW X nL k n ws pl (pc + 1) lo (v :: w :: v :: w :: st)) : AW X nL k n ws pl pc lo (v :: w :: st) := by
  obtain ⟨p, l, e, R, s, m, args, below, meth, c, g, A, Q⟩ := X
  obtain ⟨hx, hb, hml, hown, hts, hK, hA, hR, hF⟩ := C
  intro H locs ls hP hD hS hl
  exact lv_dup2_11 hx hb hd hv hw (kk H locs ls hP hD hS hl)
theorem a_dup2_2 (C : Cok X cc nL own rm Fz) {v : Value} (hd : decode cc pc = .ok (.dup2, 1)) (hv : v.category = 2) (kk : AW X nL k n ws pl (pc + 1) lo (v :: v :: st)) : AW X nL k n ws pl pc lo (v :: st) := by
  obtain ⟨p, l, e, R, s, m, args, below, meth, c, g, A, Q⟩ := X
  obtain ⟨hx, hb, hml, hown, hts, hK, hA, hR, hF⟩ := C
  intro H locs ls hP hD hS hl
  exact lv_dup2_2 hx hb hd hv (kk H locs ls hP hD hS hl)
theorem a_dup_x1 (C : Cok X cc nL own rm Fz) {v w : Value} (hd : decode cc pc = .ok (.dup_x1, 1)) (hv : v.category = 1) (hw : w.category = 1) (kk : AW X nL k n ws pl (pc + 1) lo (v :: w :: v :: st)) : AW X nL k n ws pl pc lo (v :: w :: st) := by
  obtain ⟨p, l, e, R, s, m, args, below, meth, c, g, A, Q⟩ := X
  obtain ⟨hx, hb, hml, hown, hts, hK, hA, hR, hF⟩ := C
  intro H locs ls hP hD hS hl
  exact lv_dup_x1 hx hb hd hv hw (kk H locs ls hP hD hS hl)
theorem a_pop (C : Cok X cc nL own rm Fz) {v : Value} (hd : decode cc pc = .ok (.pop, 1)) (hv : v.category = 1) (kk : AW X nL k n ws pl (pc + 1) lo (st)) : AW X nL k n ws pl pc lo (v :: st) := by
  obtain ⟨p, l, e, R, s, m, args, below, meth, c, g, A, Q⟩ := X
  obtain ⟨hx, hb, hml, hown, hts, hK, hA, hR, hF⟩ := C
  intro H locs ls hP hD hS hl
  exact lv_pop hx hb hd hv (kk H locs ls hP hD hS hl)
theorem a_goto (C : Cok X cc nL own rm Fz) {off : Int} {tgt : Nat} (hd : decode cc pc = .ok (.goto off, 3)) (ht : (pc : Int) + off = (tgt : Int)) (kk : AW X nL k n ws pl (tgt) lo (st)) : AW X nL k n ws pl pc lo (st) := by
  obtain ⟨p, l, e, R, s, m, args, below, meth, c, g, A, Q⟩ := X
  obtain ⟨hx, hb, hml, hown, hts, hK, hA, hR, hF⟩ := C
  intro H locs ls hP hD hS hl
  exact lv_goto hx hb hd ht (kk H locs ls hP hD hS hl)
theorem a_if_eq (C : Cok X cc nL own rm Fz) {x : Int32} {off : Int} {tgt : Nat} (hd : decode cc pc = .ok (.ifCond .eq off, 3)) (ht : (pc : Int) + off = (tgt : Int)) (kt : x = 0 → AW X nL k n ws pl tgt lo st) (kf : ¬ x = 0 → AW X nL k n ws pl (pc + 3) lo st) : AW X nL k n ws pl pc lo (.int x :: st) := by
  obtain ⟨p, l, e, R, s, m, args, below, meth, c, g, A, Q⟩ := X
  obtain ⟨hx, hb, hml, hown, hts, hK, hA, hR, hF⟩ := C
  intro H locs ls hP hD hS hl
  exact lv_if_eq hx hb hd ht (fun z => kt z H locs ls hP hD hS hl) (fun z => kf z H locs ls hP hD hS hl)
theorem a_icmp_eq (C : Cok X cc nL own rm Fz) {x y : Int32} {off : Int} {tgt : Nat} (hd : decode cc pc = .ok (.if_icmp .eq off, 3)) (ht : (pc : Int) + off = (tgt : Int)) (kt : x = y → AW X nL k n ws pl tgt lo st) (kf : ¬ x = y → AW X nL k n ws pl (pc + 3) lo st) : AW X nL k n ws pl pc lo (.int y :: .int x :: st) := by
  obtain ⟨p, l, e, R, s, m, args, below, meth, c, g, A, Q⟩ := X
  obtain ⟨hx, hb, hml, hown, hts, hK, hA, hR, hF⟩ := C
  intro H locs ls hP hD hS hl
  exact lv_icmp_eq hx hb hd ht (fun z => kt z H locs ls hP hD hS hl) (fun z => kf z H locs ls hP hD hS hl)
theorem a_if_ne (C : Cok X cc nL own rm Fz) {x : Int32} {off : Int} {tgt : Nat} (hd : decode cc pc = .ok (.ifCond .ne off, 3)) (ht : (pc : Int) + off = (tgt : Int)) (kt : ¬ x = 0 → AW X nL k n ws pl tgt lo st) (kf : x = 0 → AW X nL k n ws pl (pc + 3) lo st) : AW X nL k n ws pl pc lo (.int x :: st) := by
  obtain ⟨p, l, e, R, s, m, args, below, meth, c, g, A, Q⟩ := X
  obtain ⟨hx, hb, hml, hown, hts, hK, hA, hR, hF⟩ := C
  intro H locs ls hP hD hS hl
  exact lv_if_ne hx hb hd ht (fun z => kt z H locs ls hP hD hS hl) (fun z => kf z H locs ls hP hD hS hl)
theorem a_icmp_ne (C : Cok X cc nL own rm Fz) {x y : Int32} {off : Int} {tgt : Nat} (hd : decode cc pc = .ok (.if_icmp .ne off, 3)) (ht : (pc : Int) + off = (tgt : Int)) (kt : ¬ x = y → AW X nL k n ws pl tgt lo st) (kf : x = y → AW X nL k n ws pl (pc + 3) lo st) : AW X nL k n ws pl pc lo (.int y :: .int x :: st) := by
  obtain ⟨p, l, e, R, s, m, args, below, meth, c, g, A, Q⟩ := X
  obtain ⟨hx, hb, hml, hown, hts, hK, hA, hR, hF⟩ := C
  intro H locs ls hP hD hS hl
  exact lv_icmp_ne hx hb hd ht (fun z => kt z H locs ls hP hD hS hl) (fun z => kf z H locs ls hP hD hS hl)
theorem a_if_lt (C : Cok X cc nL own rm Fz) {x : Int32} {off : Int} {tgt : Nat} (hd : decode cc pc = .ok (.ifCond .lt off, 3)) (ht : (pc : Int) + off = (tgt : Int)) (kt : x < 0 → AW X nL k n ws pl tgt lo st) (kf : ¬ x < 0 → AW X nL k n ws pl (pc + 3) lo st) : AW X nL k n ws pl pc lo (.int x :: st) := by
  obtain ⟨p, l, e, R, s, m, args, below, meth, c, g, A, Q⟩ := X
  obtain ⟨hx, hb, hml, hown, hts, hK, hA, hR, hF⟩ := C
  intro H locs ls hP hD hS hl
  exact lv_if_lt hx hb hd ht (fun z => kt z H locs ls hP hD hS hl) (fun z => kf z H locs ls hP hD hS hl)
theorem a_icmp_lt (C : Cok X cc nL own rm Fz) {x y : Int32} {off : Int} {tgt : Nat} (hd : decode cc pc = .ok (.if_icmp .lt off, 3)) (ht : (pc : Int) + off = (tgt : Int)) (kt : x < y → AW X nL k n ws pl tgt lo st) (kf : ¬ x < y → AW X nL k n ws pl (pc + 3) lo st) : AW X nL k n ws pl pc lo (.int y :: .int x :: st) := by
  obtain ⟨p, l, e, R, s, m, args, below, meth, c, g, A, Q⟩ := X
  obtain ⟨hx, hb, hml, hown, hts, hK, hA, hR, hF⟩ := C
  intro H locs ls hP hD hS hl
  exact lv_icmp_lt hx hb hd ht (fun z => kt z H locs ls hP hD hS hl) (fun z => kf z H locs ls hP hD hS hl)
theorem a_if_ge (C : Cok X cc nL own rm Fz) {x : Int32} {off : Int} {tgt : Nat} (hd : decode cc pc = .ok (.ifCond .ge off, 3)) (ht : (pc : Int) + off = (tgt : Int)) (kt : 0 ≤ x → AW X nL k n ws pl tgt lo st) (kf : ¬ 0 ≤ x → AW X nL k n ws pl (pc + 3) lo st) : AW X nL k n ws pl pc lo (.int x :: st) := by
  obtain ⟨p, l, e, R, s, m, args, below, meth, c, g, A, Q⟩ := X
  obtain ⟨hx, hb, hml, hown, hts, hK, hA, hR, hF⟩ := C
  intro H locs ls hP hD hS hl
  exact lv_if_ge hx hb hd ht (fun z => kt z H locs ls hP hD hS hl) (fun z => kf z H locs ls hP hD hS hl)
theorem a_icmp_ge (C : Cok X cc nL own rm Fz) {x y : Int32} {off : Int} {tgt : Nat} (hd : decode cc pc = .ok (.if_icmp .ge off, 3)) (ht : (pc : Int) + off = (tgt : Int)) (kt : y ≤ x → AW X nL k n ws pl tgt lo st) (kf : ¬ y ≤ x → AW X nL k n ws pl (pc + 3) lo st) : AW X nL k n ws pl pc lo (.int y :: .int x :: st) := by
  obtain ⟨p, l, e, R, s, m, args, below, meth, c, g, A, Q⟩ := X
  obtain ⟨hx, hb, hml, hown, hts, hK, hA, hR, hF⟩ := C
  intro H locs ls hP hD hS hl
  exact lv_icmp_ge hx hb hd ht (fun z => kt z H locs ls hP hD hS hl) (fun z => kf z H locs ls hP hD hS hl)
theorem a_if_gt (C : Cok X cc nL own rm Fz) {x : Int32} {off : Int} {tgt : Nat} (hd : decode cc pc = .ok (.ifCond .gt off, 3)) (ht : (pc : Int) + off = (tgt : Int)) (kt : 0 < x → AW X nL k n ws pl tgt lo st) (kf : ¬ 0 < x → AW X nL k n ws pl (pc + 3) lo st) : AW X nL k n ws pl pc lo (.int x :: st) := by
  obtain ⟨p, l, e, R, s, m, args, below, meth, c, g, A, Q⟩ := X
  obtain ⟨hx, hb, hml, hown, hts, hK, hA, hR, hF⟩ := C
  intro H locs ls hP hD hS hl
  exact lv_if_gt hx hb hd ht (fun z => kt z H locs ls hP hD hS hl) (fun z => kf z H locs ls hP hD hS hl)
theorem a_icmp_gt (C : Cok X cc nL own rm Fz) {x y : Int32} {off : Int} {tgt : Nat} (hd : decode cc pc = .ok (.if_icmp .gt off, 3)) (ht : (pc : Int) + off = (tgt : Int)) (kt : y < x → AW X nL k n ws pl tgt lo st) (kf : ¬ y < x → AW X nL k n ws pl (pc + 3) lo st) : AW X nL k n ws pl pc lo (.int y :: .int x :: st) := by
  obtain ⟨p, l, e, R, s, m, args, below, meth, c, g, A, Q⟩ := X
  obtain ⟨hx, hb, hml, hown, hts, hK, hA, hR, hF⟩ := C
  intro H locs ls hP hD hS hl
  exact lv_icmp_gt hx hb hd ht (fun z => kt z H locs ls hP hD hS hl) (fun z => kf z H locs ls hP hD hS hl)
theorem a_if_le (C : Cok X cc nL own rm Fz) {x : Int32} {off : Int} {tgt : Nat} (hd : decode cc pc = .ok (.ifCond .le off, 3)) (ht : (pc : Int) + off = (tgt : Int)) (kt : x ≤ 0 → AW X nL k n ws pl tgt lo st) (kf : ¬ x ≤ 0 → AW X nL k n ws pl (pc + 3) lo st) : AW X nL k n ws pl pc lo (.int x :: st) := by
  obtain ⟨p, l, e, R, s, m, args, below, meth, c, g, A, Q⟩ := X
  obtain ⟨hx, hb, hml, hown, hts, hK, hA, hR, hF⟩ := C
  intro H locs ls hP hD hS hl
  exact lv_if_le hx hb hd ht (fun z => kt z H locs ls hP hD hS hl) (fun z => kf z H locs ls hP hD hS hl)
theorem a_icmp_le (C : Cok X cc nL own rm Fz) {x y : Int32} {off : Int} {tgt : Nat} (hd : decode cc pc = .ok (.if_icmp .le off, 3)) (ht : (pc : Int) + off = (tgt : Int)) (kt : x ≤ y → AW X nL k n ws pl tgt lo st) (kf : ¬ x ≤ y → AW X nL k n ws pl (pc + 3) lo st) : AW X nL k n ws pl pc lo (.int y :: .int x :: st) := by
  obtain ⟨p, l, e, R, s, m, args, below, meth, c, g, A, Q⟩ := X
  obtain ⟨hx, hb, hml, hown, hts, hK, hA, hR, hF⟩ := C
  intro H locs ls hP hD hS hl
  exact lv_icmp_le hx hb hd ht (fun z => kt z H locs ls hP hD hS hl) (fun z => kf z H locs ls hP hD hS hl)
theorem a_ifnull (C : Cok X cc nL own rm Fz) {x : Nat} {off : Int} (hd : decode cc pc = .ok (.ifnull off, 3))  (kk : AW X nL k n ws pl (pc + 3) lo (st)) : AW X nL k n ws pl pc lo (.ref x :: st) := by
  obtain ⟨p, l, e, R, s, m, args, below, meth, c, g, A, Q⟩ := X
  obtain ⟨hx, hb, hml, hown, hts, hK, hA, hR, hF⟩ := C
  intro H locs ls hP hD hS hl
  exact lv_ifnull hx hb hd (kk H locs ls hP hD hS hl)
theorem a_ifnullN (C : Cok X cc nL own rm Fz) {off : Int} {tgt : Nat} (hd : decode cc pc = .ok (.ifnull off, 3)) (ht : (pc : Int) + off = (tgt : Int)) (kk : AW X nL k n ws pl (tgt) lo (st)) : AW X nL k n ws pl pc lo (.null :: st) := by
  obtain ⟨p, l, e, R, s, m, args, below, meth, c, g, A, Q⟩ := X
  obtain ⟨hx, hb, hml, hown, hts, hK, hA, hR, hF⟩ := C
  intro H locs ls hP hD hS hl
  exact lv_ifnullN hx hb hd ht (kk H locs ls hP hD hS hl)
theorem a_ifnonnull (C : Cok X cc nL own rm Fz) {x : Nat} {off : Int} {tgt : Nat} (hd : decode cc pc = .ok (.ifnonnull off, 3)) (ht : (pc : Int) + off = (tgt : Int)) (kk : AW X nL k n ws pl (tgt) lo (st)) : AW X nL k n ws pl pc lo (.ref x :: st) := by
  obtain ⟨p, l, e, R, s, m, args, below, meth, c, g, A, Q⟩ := X
  obtain ⟨hx, hb, hml, hown, hts, hK, hA, hR, hF⟩ := C
  intro H locs ls hP hD hS hl
  exact lv_ifnonnull hx hb hd ht (kk H locs ls hP hD hS hl)
theorem a_ifnonnullN (C : Cok X cc nL own rm Fz) {off : Int} (hd : decode cc pc = .ok (.ifnonnull off, 3))  (kk : AW X nL k n ws pl (pc + 3) lo (st)) : AW X nL k n ws pl pc lo (.null :: st) := by
  obtain ⟨p, l, e, R, s, m, args, below, meth, c, g, A, Q⟩ := X
  obtain ⟨hx, hb, hml, hown, hts, hK, hA, hR, hF⟩ := C
  intro H locs ls hP hD hS hl
  exact lv_ifnonnullN hx hb hd (kk H locs ls hP hD hS hl)
theorem a_topi {x : Int32} (kk : ∀ y : Int32, y = x → AW X nL k n ws pl pc lo (.int y :: st)) : AW X nL k n ws pl pc lo (.int x :: st) := kk x rfl
theorem a_topl {x : Int64} (kk : ∀ y : Int64, y = x → AW X nL k n ws pl pc lo (.long y :: st)) : AW X nL k n ws pl pc lo (.long x :: st) := kk x rfl
theorem a_tableOut (C : Cok X cc nL own rm Fz) {dflt lw hi : Int} {offs : Array Int} {len : Nat} {x : Int32} {tgt : Nat} (hd : decode cc pc = .ok (.tableswitch dflt lw hi offs, len)) (h : x.toInt < lw ∨ hi < x.toInt) (ht : (pc : Int) + dflt = (tgt : Int)) (kk : AW X nL k n ws pl tgt lo st) : AW X nL k n ws pl pc lo (.int x :: st) := by
  obtain ⟨p, l, e, R, s, m, args, below, meth, c, g, A, Q⟩ := X
  obtain ⟨hx, hb, hml, hown, hts, hK, hA, hR, hF⟩ := C
  intro H locs ls hP hD hS hl
  exact lv_tableOut hx hb hd h ht (kk H locs ls hP hD hS hl)
theorem a_tableIn (C : Cok X cc nL own rm Fz) {dflt lw hi : Int} {offs : Array Int} {len : Nat} {x : Int32} {off : Int} {tgt : Nat} (hd : decode cc pc = .ok (.tableswitch dflt lw hi offs, len)) (h1 : ¬ x.toInt < lw) (h2 : ¬ hi < x.toInt) (ho : offs[(x.toInt - lw).toNat]? = some off) (ht : (pc : Int) + off = (tgt : Int)) (kk : AW X nL k n ws pl tgt lo st) : AW X nL k n ws pl pc lo (.int x :: st) := by
  obtain ⟨p, l, e, R, s, m, args, below, meth, c, g, A, Q⟩ := X
  obtain ⟨hx, hb, hml, hown, hts, hK, hA, hR, hF⟩ := C
  intro H locs ls hP hD hS hl
  exact lv_tableIn hx hb hd h1 h2 ho ht (kk H locs ls hP hD hS hl)
theorem a_lookup (C : Cok X cc nL own rm Fz) {dflt : Int} {ps : Array (Int × Int)} {len : Nat} {x : Int32} {off : Int} {tgt : Nat} (hd : decode cc pc = .ok (.lookupswitch dflt ps, len)) (hp : (ps.toList.zip (ps.toList.drop 1)).all (fun (a, next) => a.1 < next.1) = true) (ho : Op.lookupswitch.offset ps.toList dflt x.toInt = off) (ht : (pc : Int) + off = (tgt : Int)) (kk : AW X nL k n ws pl tgt lo st) : AW X nL k n ws pl pc lo (.int x :: st) := by
  obtain ⟨p, l, e, R, s, m, args, below, meth, c, g, A, Q⟩ := X
  obtain ⟨hx, hb, hml, hown, hts, hK, hA, hR, hF⟩ := C
  intro H locs ls hP hD hS hl
  exact lv_lookup hx hb hd hp ho ht (kk H locs ls hP hD hS hl)
theorem wP_l {D : va_G} {H : Heap} {a b : va_W} (h : va_P D vwCl (a ++ b) H) : va_P D vwCl a H := fun i x hi => h i x (by rw [List.getElem?_append_left (List.getElem?_eq_some_iff.mp hi).1]; exact hi)
theorem wP_r {D : va_G} {H : Heap} {a b : va_W} (h : va_P D vwCl (a ++ b) H) : va_P D vwCl b H := fun i x hi => h (a.length + i) x (by rw [List.getElem?_append_right (by omega), Nat.add_sub_cancel_left]; exact hi)
theorem wD_l {A : Nat → Prop} {a b : va_W} (h : va_D A (a ++ b)) : va_D A a :=
  ⟨fun i j x y hi hj e => h.1 i j x y (by rw [List.getElem?_append_left (List.getElem?_eq_some_iff.mp hi).1]; exact hi) (by rw [List.getElem?_append_left (List.getElem?_eq_some_iff.mp hj).1]; exact hj) e, fun i x hi => h.2 i x (by rw [List.getElem?_append_left (List.getElem?_eq_some_iff.mp hi).1]; exact hi)⟩
theorem wD_r {A : Nat → Prop} {a b : va_W} (h : va_D A (a ++ b)) : va_D A b :=
  ⟨fun i j x y hi hj e => by
    have z := h.1 (a.length + i) (a.length + j) x y (by rw [List.getElem?_append_right (by omega), Nat.add_sub_cancel_left]; exact hi) (by rw [List.getElem?_append_right (by omega), Nat.add_sub_cancel_left]; exact hj) e
    omega, fun i x hi => h.2 (a.length + i) x (by rw [List.getElem?_append_right (by omega), Nat.add_sub_cancel_left]; exact hi)⟩
theorem wD_x {A : Nat → Prop} {a b : va_W} (h : va_D A (a ++ b)) (i j : Nat) (x y : Nat × va_E) (hi : a[i]? = some x) (hj : b[j]? = some y) : x.1 ≠ y.1 := fun e => by
  have hl := (List.getElem?_eq_some_iff.mp hi).1
  have z := h.1 i (a.length + j) x y (by rw [List.getElem?_append_left hl]; exact hi) (by rw [List.getElem?_append_right (by omega), Nat.add_sub_cancel_left]; exact hj) e
  omega
theorem wP_pick {D : va_G} {H : Heap} (h : va_P D vwCl (ws ++ pl) H) (is : List Nat) : va_P D vwCl (pick ws is ++ pl) H := ((wP_l h).sub is rfl).app (wP_r h)
theorem wD_pick {A : Nat → Prop} (h : va_D A (ws ++ pl)) (is : List Nat) (hB : inB ws is = true) (hn : va_nd is = true) : va_D A (pick ws is ++ pl) :=
  ((wD_l h).sub is hn (pick_map hB)).app (wD_r h) (fun i j x y hi hj => by
    obtain ⟨z, hz⟩ := pick_at hi
    exact wD_x h z j x y hz hj)
/-- another order of the world, or less of it -/
theorem a_sub (is : List Nat) (hB : inB ws is = true) (hn : va_nd is = true) {ws' : va_W} (he : pick ws is = ws') (kk : AW X nL k n ws' pl pc lo st) : AW X nL k n ws pl pc lo st := by
  subst he
  obtain ⟨p, l, e, R, s, m, args, below, meth, c, g, A, Q⟩ := X
  intro H locs ls hP hD hS hl
  exact kk H locs ls (wP_pick hP is) (wD_pick hD is hB hn) hS hl
/-- less of the locals -/
theorem a_loc {lo' : List (Option Value)} (h : ∀ (i : Nat) (v : Value), lo'[i]? = some (some v) → lo[i]? = some (some v)) (kk : AW X nL k n ws pl pc lo' st) : AW X nL k n ws pl pc lo st := by
  obtain ⟨p, l, e, R, s, m, args, below, meth, c, g, A, Q⟩ := X
  intro H locs ls hP hD hS hl
  exact kk H locs ls hP hD hS ⟨hl.1, hl.2.1, fun i v hi => hl.2.2 i v (h i v hi)⟩
def msk : List Bool → List (Option Value) → List (Option Value)
  | [], l => l
  | _, [] => []
  | true :: bs, o :: l => o :: msk bs l
  | false :: bs, _ :: l => none :: msk bs l
theorem msk_in : ∀ (bs : List Bool) (l : List (Option Value)) (i : Nat) (v : Value), (msk bs l)[i]? = some (some v) → l[i]? = some (some v)
  | [], l, i, v, h => h
  | true :: bs, [], i, v, h => h
  | false :: bs, [], i, v, h => h
  | true :: bs, o :: l, 0, v, h => h
  | true :: bs, o :: l, i + 1, v, h => msk_in bs l i v h
  | false :: bs, o :: l, 0, v, h => by simp [msk] at h
  | false :: bs, o :: l, i + 1, v, h => msk_in bs l i v h
theorem a_msk (bs : List Bool) {lo' : List (Option Value)} (he : msk bs lo = lo') (kk : AW X nL k n ws pl pc lo' st) : AW X nL k n ws pl pc lo st :=
  a_loc (fun i v h => msk_in bs lo i v (by rw [he]; exact h)) kk
theorem a_widen {k' n' : Nat} (h1 : k ≤ k') (h2 : n ≤ n') (kk : AW X nL k' n' ws pl pc lo st) : AW X nL k n ws pl pc lo st := by
  obtain ⟨p, l, e, R, s, m, args, below, meth, c, g, A, Q⟩ := X
  intro H locs ls hP hD hS hl
  exact W.widen h1 h2 (kk H locs ls hP hD hS hl)
end AR
