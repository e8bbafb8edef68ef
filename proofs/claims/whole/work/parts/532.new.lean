/-! MAKERS: new objects and arrays, rooms with cells, orders of the world -/
def rmC (d c n : Nat) : Room := { frames := d, cells := c, slots := n, locals := 60 * d }
theorem rmCC {a b ny c n c2 n2 k s : Nat} (h : a < b) (hn : ny ≤ 41) (h1 : k + c ≤ c2) (h2 : s + n ≤ n2) : RmOk (rmC a c n) (rmC b c2 n2) ny c n k s := ⟨rfl, rfl, h, by show 8 + (ny + 11) + 60 * a ≤ 60 * b; omega, h1, h2⟩
theorem rmLC {a b ny c2 n2 k s : Nat} (h : a < b) (hn : ny ≤ 41) (h1 : k ≤ c2) (h2 : s ≤ n2) : RmOk (rmL a) (rmC b c2 n2) ny 0 0 k s := ⟨rfl, rfl, h, by show 8 + (ny + 11) + 60 * a ≤ 60 * b; omega, h1, h2⟩
theorem vaP_perm {D : va_G} {cl : List vw_C} {l1 l2 : va_W} {H : Heap} (p : l1.Perm l2) (h : va_P D cl l1 H) : va_P D cl l2 H := fun k q hk => by
  obtain ⟨i, hi⟩ := List.getElem?_of_mem (p.mem_iff.mpr (List.mem_of_getElem? hk))
  exact h i q hi
theorem vaD_iff {A : Nat → Prop} {ws : va_W} : va_D A ws ↔ (ws.map Prod.fst).Nodup ∧ ∀ q ∈ ws, A q.1 := by
  constructor
  · intro h
    refine ⟨List.pairwise_iff_getElem.mpr (fun i j hi hj hij e => ?_), fun q hq => ?_⟩
    · have hi' : i < ws.length := by simpa using hi
      have hj' : j < ws.length := by simpa using hj
      have e' : ws[i].1 = ws[j].1 := by simpa using e
      have z := h.1 i j ws[i] ws[j] (List.getElem?_eq_getElem hi') (List.getElem?_eq_getElem hj') e'
      omega
    · obtain ⟨i, hi⟩ := List.getElem?_of_mem hq
      exact h.2 i q hi
  · intro h
    refine ⟨fun i j x y hi hj e => ?_, fun k q hk => h.2 q (List.mem_of_getElem? hk)⟩
    obtain ⟨hi1, hi2⟩ := List.getElem?_eq_some_iff.mp hi
    obtain ⟨hj1, hj2⟩ := List.getElem?_eq_some_iff.mp hj
    have hp := List.pairwise_iff_getElem.mp h.1
    have l1 : i < (ws.map Prod.fst).length := by simpa using hi1
    have l2 : j < (ws.map Prod.fst).length := by simpa using hj1
    have e1 : (ws.map Prod.fst)[i] = x.1 := by simp [hi2]
    have e2 : (ws.map Prod.fst)[j] = y.1 := by simp [hj2]
    rcases Nat.lt_trichotomy i j with z | z | z
    · exact absurd (by rw [e1, e2, e]) (hp i j l1 l2 z)
    · exact z
    · exact absurd (by rw [e1, e2, e]) (hp j i l2 l1 z)
theorem vaD_perm {A : Nat → Prop} {l1 l2 : va_W} (p : l1.Perm l2) (h : va_D A l1) : va_D A l2 := by
  rw [vaD_iff] at h ⊢
  exact ⟨(p.map Prod.fst).nodup_iff.mp h.1, fun q hq => h.2 q (p.mem_iff.mpr hq)⟩
def NewOk (own : String) (idx ci : Nat) (fs : List Value) (N : Nat) : Prop := ∃ (C : String) (T : u_T) (ty0 : Nat → FieldType), vwCl[ci]? = some (C, T, N) ∧ (∀ w ∈ u_ws C T N, w ∈ tb) ∧ (∀ k, k < N → parseFieldDescriptor (T k).2.2.1 = some (ty0 k)) ∧ Cond.classLink own idx C ∈ tb ∧ Cond.instantiable C N ∈ tb ∧ Cond.initialized C ∈ tb ∧ ∀ j, j < N → defaultValue (ty0 j) = vp_V fs j
section AN
variable {X : Ctx} {cc : ByteArray} {nL k n : Nat} {own : String} {rm : Room} {Fz : (Nat → Prop) → State → Prop} {ws : va_W} {pl : Pool} {lo : List (Option Value)} {st : List Value} {pc : Nat}
theorem a_perm {ws' : va_W} {pl' : Pool} (p : (ws ++ pl).Perm (ws' ++ pl')) (kk : AW X nL k n ws' pl' pc lo st) : AW X nL k n ws pl pc lo st := by
  obtain ⟨pp, l, e, R, s, m, args, below, meth, c, g, A, Q⟩ := X
  intro H locs ls hP hD hS hl
  exact kk H locs ls (vaP_perm p hP) (vaD_perm p hD) hS hl
theorem a_toPool {x : Nat × va_E} (kk : AW X nL k n ws (x :: pl) pc lo st) : AW X nL k n (ws ++ [x]) pl pc lo st := a_perm (by rw [List.append_assoc]; exact List.Perm.refl _) kk
theorem perm_mid (a b : va_W) (x : Nat × va_E) : ((a ++ b) ++ [x]).Perm ((a ++ [x]) ++ b) := by
  rw [List.append_assoc, List.append_assoc]
  exact List.Perm.append_left a List.perm_append_comm
theorem a_new (C : Cok X cc nL own rm Fz) {idx ci N : Nat} {fs : List Value} (ho : NewOk own idx ci fs N) (hd : decode cc pc = .ok (.new idx, 3)) (hc : k + 1 ≤ rm.cells) (hs : n + N ≤ rm.slots) (ws' : Nat → va_W) (hw : ∀ q, ws ++ [(q, .inr (ci, fs))] = ws' q) (kk : ∀ q, AW X nL (k + 1) (n + N) (ws' q) pl (pc + 3) lo (.ref q :: st)) : AW X nL k n ws pl pc lo st := by
  obtain ⟨p, l, e, R, s, m, args, below, meth, c, g, A, Q⟩ := X
  obtain ⟨hx, hb, hml, hown, hts, hK, hA, hR, hF⟩ := C
  subst hR
  intro H locs ls hP hD hS hl
  obtain ⟨Cn, T, ty0, h1, h2, h3, h4, h5, h6, h7⟩ := ho
  exact va_new hx hb hts h2 ty0 h3 hown (hts _ h4) (hts _ h5) (hts _ h6) hK hP hD hS hA h1 h7 hc hs hd (fun q H1 hP1 hD1 hS1 => kk q H1 locs ls (by rw [← hw]; exact vaP_perm (perm_mid _ _ _) hP1) (by rw [← hw]; exact vaD_perm (perm_mid _ _ _) hD1) hS1 hl)
theorem cA_eq {D : va_G} {tys : List (ClassId × FieldType)} {s : State} {cA c0 : ClassId} {ty : FieldType} (hK : va_K D vwCl (tys ++ [(cA, ty)]) s) {t0 : Nat} (h0 : tys[t0]? = some (c0, ty)) : cA = c0 := by
  have a := (hK.2 t0 (c0, ty) (by rw [List.getElem?_append_left (List.getElem?_eq_some_iff.mp h0).1]; exact h0)).2
  have b := (hK.2 tys.length (cA, ty) (by rw [List.getElem?_append_right (Nat.le_refl _), Nat.sub_self]; rfl)).2
  cases ty with
  | object C =>
    obtain ⟨_, _, -, -, -, a4⟩ := a
    obtain ⟨_, _, -, -, -, b4⟩ := b
    rw [a4] at b4
    exact (Option.some.inj b4).symm
  | _ =>
    simp only [va_RA] at a b
    rw [a] at b
    exact (Option.some.inj b).symm
theorem a_newaI (C : Cok X cc nL own rm Fz) {x : Int32} {N : Nat} (h0 : ¬ x < 0) (hN : x.toNatClampNeg = N) (hb8 : N * 8 ≤ 536870912) (har : Cond.arrayClass .int ∈ tb) (hd : decode cc pc = .ok (.newarray .int, 2)) (hc : k + 1 ≤ rm.cells) (hs : n + N ≤ rm.slots) (ws' : Nat → va_W) (hw : ∀ q, ws ++ [(q, aI (cxG X) N (fun _ => 0))] = ws' q) (kk : ∀ q, AW X nL (k + 1) (n + N) (ws' q) pl (pc + 2) lo (.ref q :: st)) : AW X nL k n ws pl pc lo (.int x :: st) := by
  obtain ⟨p, l, e, R, s, m, args, below, meth, c, g, A, Q⟩ := X
  obtain ⟨hx, hb, hml, hown, hts, hK, hA, hR, hF⟩ := C
  subst hR
  intro H locs ls hP hD hS hl
  refine va_newa (atype := .int) (a0 := (N, .inl (fun _ => 0))) hx hb (hts _ har) rfl hK hP hD hS hA (fun cA => rfl) h0 hN (by show N * 4 ≤ _; omega) hc hs hd (fun q cA H1 hK1 hP1 hD1 hS1 => ?_)
  obtain rfl := cA_eq hK1 (t0 := 0) rfl
  exact kk q H1 locs ls (by rw [← hw]; exact vaP_perm (perm_mid _ _ _) hP1) (by rw [← hw]; exact vaD_perm (perm_mid _ _ _) hD1) hS1 hl
theorem a_newaJ (C : Cok X cc nL own rm Fz) {x : Int32} {N : Nat} (h0 : ¬ x < 0) (hN : x.toNatClampNeg = N) (hb8 : N * 8 ≤ 536870912) (har : Cond.arrayClass .long ∈ tb) (hd : decode cc pc = .ok (.newarray .long, 2)) (hc : k + 1 ≤ rm.cells) (hs : n + N ≤ rm.slots) (ws' : Nat → va_W) (hw : ∀ q, ws ++ [(q, aJ (cxG X) N (fun _ => 0))] = ws' q) (kk : ∀ q, AW X nL (k + 1) (n + N) (ws' q) pl (pc + 2) lo (.ref q :: st)) : AW X nL k n ws pl pc lo (.int x :: st) := by
  obtain ⟨p, l, e, R, s, m, args, below, meth, c, g, A, Q⟩ := X
  obtain ⟨hx, hb, hml, hown, hts, hK, hA, hR, hF⟩ := C
  subst hR
  intro H locs ls hP hD hS hl
  refine va_newa (atype := .long) (a0 := (N, .inr (.inl (fun _ => 0)))) hx hb (hts _ har) rfl hK hP hD hS hA (fun cA => rfl) h0 hN (by show N * 8 ≤ _; omega) hc hs hd (fun q cA H1 hK1 hP1 hD1 hS1 => ?_)
  obtain rfl := cA_eq hK1 (t0 := 1) rfl
  exact kk q H1 locs ls (by rw [← hw]; exact vaP_perm (perm_mid _ _ _) hP1) (by rw [← hw]; exact vaD_perm (perm_mid _ _ _) hD1) hS1 hl
theorem a_newaZ (C : Cok X cc nL own rm Fz) {x : Int32} {N : Nat} (h0 : ¬ x < 0) (hN : x.toNatClampNeg = N) (hb8 : N * 8 ≤ 536870912) (har : Cond.arrayClass .boolean ∈ tb) (hd : decode cc pc = .ok (.newarray .boolean, 2)) (hc : k + 1 ≤ rm.cells) (hs : n + N ≤ rm.slots) (ws' : Nat → va_W) (hw : ∀ q, ws ++ [(q, aZ (cxG X) N (fun _ => 0))] = ws' q) (kk : ∀ q, AW X nL (k + 1) (n + N) (ws' q) pl (pc + 2) lo (.ref q :: st)) : AW X nL k n ws pl pc lo (.int x :: st) := by
  obtain ⟨p, l, e, R, s, m, args, below, meth, c, g, A, Q⟩ := X
  obtain ⟨hx, hb, hml, hown, hts, hK, hA, hR, hF⟩ := C
  subst hR
  intro H locs ls hP hD hS hl
  refine va_newa (atype := .boolean) (a0 := (N, .inl (fun _ => 0))) hx hb (hts _ har) rfl hK hP hD hS hA (fun cA => rfl) h0 hN (by show N * 1 ≤ _; omega) hc hs hd (fun q cA H1 hK1 hP1 hD1 hS1 => ?_)
  obtain rfl := cA_eq hK1 (t0 := 2) rfl
  exact kk q H1 locs ls (by rw [← hw]; exact vaP_perm (perm_mid _ _ _) hP1) (by rw [← hw]; exact vaD_perm (perm_mid _ _ _) hD1) hS1 hl
theorem a_newaS (C : Cok X cc nL own rm Fz) (hao : ∀ A U, Fz A U → va_AO "ShadySide$Sun" U) {idx : Nat} {x : Int32} {N : Nat} (h0 : ¬ x < 0) (hN : x.toNatClampNeg = N) (hb8 : N * 8 ≤ 536870912) (hcl : Cond.classLink own idx "ShadySide$Sun" ∈ tb) (hd : decode cc pc = .ok (.anewarray idx, 3)) (hc : k + 1 ≤ rm.cells) (hs : n + N ≤ rm.slots) (ws' : Nat → va_W) (hw : ∀ q, ws ++ [(q, aS (cxG X) N (fun _ => none))] = ws' q) (kk : ∀ q, AW X nL (k + 1) (n + N) (ws' q) pl (pc + 3) lo (.ref q :: st)) : AW X nL k n ws pl pc lo (.int x :: st) := by
  obtain ⟨p, l, e, R, s, m, args, below, meth, c, g, A, Q⟩ := X
  obtain ⟨hx, hb, hml, hown, hts, hK, hA, hR, hF⟩ := C
  subst hR
  intro H locs ls hP hD hS hl
  refine va_newq hx hb hown (hts _ hcl) (hao A s hF) hK hP hD hS hA h0 hN (by omega) hc hs hd (fun q cA H1 hK1 hP1 hD1 hS1 => ?_)
  obtain rfl := cA_eq hK1 (t0 := 3) rfl
  exact kk q H1 locs ls (by rw [← hw]; exact vaP_perm (perm_mid _ _ _) hP1) (by rw [← hw]; exact vaD_perm (perm_mid _ _ _) hD1) hS1 hl
theorem a_newaW (C : Cok X cc nL own rm Fz) (hao : ∀ A U, Fz A U → va_AO "ShadySide$Walker" U) {idx : Nat} {x : Int32} {N : Nat} (h0 : ¬ x < 0) (hN : x.toNatClampNeg = N) (hb8 : N * 8 ≤ 536870912) (hcl : Cond.classLink own idx "ShadySide$Walker" ∈ tb) (hd : decode cc pc = .ok (.anewarray idx, 3)) (hc : k + 1 ≤ rm.cells) (hs : n + N ≤ rm.slots) (ws' : Nat → va_W) (hw : ∀ q, ws ++ [(q, aW (cxG X) N (fun _ => none))] = ws' q) (kk : ∀ q, AW X nL (k + 1) (n + N) (ws' q) pl (pc + 3) lo (.ref q :: st)) : AW X nL k n ws pl pc lo (.int x :: st) := by
  obtain ⟨p, l, e, R, s, m, args, below, meth, c, g, A, Q⟩ := X
  obtain ⟨hx, hb, hml, hown, hts, hK, hA, hR, hF⟩ := C
  subst hR
  intro H locs ls hP hD hS hl
  refine va_newq hx hb hown (hts _ hcl) (hao A s hF) hK hP hD hS hA h0 hN (by omega) hc hs hd (fun q cA H1 hK1 hP1 hD1 hS1 => ?_)
  obtain rfl := cA_eq hK1 (t0 := 4) rfl
  exact kk q H1 locs ls (by rw [← hw]; exact vaP_perm (perm_mid _ _ _) hP1) (by rw [← hw]; exact vaD_perm (perm_mid _ _ _) hD1) hS1 hl
theorem a_newaT (C : Cok X cc nL own rm Fz) (hao : ∀ A U, Fz A U → va_AO "ShadySide$Town" U) {idx : Nat} {x : Int32} {N : Nat} (h0 : ¬ x < 0) (hN : x.toNatClampNeg = N) (hb8 : N * 8 ≤ 536870912) (hcl : Cond.classLink own idx "ShadySide$Town" ∈ tb) (hd : decode cc pc = .ok (.anewarray idx, 3)) (hc : k + 1 ≤ rm.cells) (hs : n + N ≤ rm.slots) (ws' : Nat → va_W) (hw : ∀ q, ws ++ [(q, aT (cxG X) N (fun _ => none))] = ws' q) (kk : ∀ q, AW X nL (k + 1) (n + N) (ws' q) pl (pc + 3) lo (.ref q :: st)) : AW X nL k n ws pl pc lo (.int x :: st) := by
  obtain ⟨p, l, e, R, s, m, args, below, meth, c, g, A, Q⟩ := X
  obtain ⟨hx, hb, hml, hown, hts, hK, hA, hR, hF⟩ := C
  subst hR
  intro H locs ls hP hD hS hl
  refine va_newq hx hb hown (hts _ hcl) (hao A s hF) hK hP hD hS hA h0 hN (by omega) hc hs hd (fun q cA H1 hK1 hP1 hD1 hS1 => ?_)
  obtain rfl := cA_eq hK1 (t0 := 5) rfl
  exact kk q H1 locs ls (by rw [← hw]; exact vaP_perm (perm_mid _ _ _) hP1) (by rw [← hw]; exact vaD_perm (perm_mid _ _ _) hD1) hS1 hl
end AN
theorem toi_im : Cond.instanceMethod Lib.objectInit ∈ tb := tb_m (tx_1 34 rfl) rfl
theorem toi_cd : Cond.code Lib.objectInit ⟨#[0xb1]⟩ 1 none ∈ tb := tb_m (tx_1 35 rfl) (by decide +kernel)
theorem tar_int : Cond.arrayClass .int ∈ tb := tb_m (tx_1 55 rfl) rfl
theorem tar_long : Cond.arrayClass .long ∈ tb := tb_m (tx_1 56 rfl) rfl
theorem tar_boolean : Cond.arrayClass .boolean ∈ tb := tb_m (tx_8 42 rfl) rfl
theorem toi_X11_1 : Cond.methodLink RX11 1 Lib.objectInit ∈ tb := tb_m (tx_1 33 rfl) rfl
theorem toi_X8_3 : Cond.methodLink RX8 3 Lib.objectInit ∈ tb := tb_m (tx_1 41 rfl) rfl
theorem toi_X5_3 : Cond.methodLink RX5 3 Lib.objectInit ∈ tb := tb_m (tx_1 47 rfl) rfl
theorem toi_X0_3 : Cond.methodLink RX0 3 Lib.objectInit ∈ tb := tb_m (tx_1 66 rfl) rfl
theorem toi_X4_3 : Cond.methodLink RX4 3 Lib.objectInit ∈ tb := tb_m (tx_1 156 rfl) rfl
theorem toi_X2_3 : Cond.methodLink RX2 3 Lib.objectInit ∈ tb := tb_m (tx_1 164 rfl) rfl
theorem toi_X6_3 : Cond.methodLink RX6 3 Lib.objectInit ∈ tb := tb_m (tx_1 232 rfl) rfl
theorem toi_X9_3 : Cond.methodLink RX9 3 Lib.objectInit ∈ tb := tb_m (tx_2 34 rfl) rfl
theorem toi_X10_1 : Cond.methodLink RX10 1 Lib.objectInit ∈ tb := tb_m (tx_2 44 rfl) rfl
theorem toi_X3_3 : Cond.methodLink RX3 3 Lib.objectInit ∈ tb := tb_m (tx_2 162 rfl) rfl
theorem toi_X1_3 : Cond.methodLink RX1 3 Lib.objectInit ∈ tb := tb_m (tx_2 192 rfl) rfl
theorem toi_X7_3 : Cond.methodLink RX7 3 Lib.objectInit ∈ tb := tb_m (tx_4 170 rfl) rfl
theorem toi_X12_18 : Cond.methodLink RX12 18 Lib.objectInit ∈ tb := tb_m (tx_7 121 rfl) rfl
section AN2
variable {X : Ctx} {cc : ByteArray} {nL k n : Nat} {own : String} {rm : Room} {Fz : (Nat → Prop) → State → Prop} {ws : va_W} {pl : Pool} {lo : List (Option Value)} {st : List Value} {pc : Nat}
theorem a_oinit (C : Cok X cc nL own rm Fz) {idx a : Nat} (hlk : Cond.methodLink own idx Lib.objectInit ∈ tb) (hd : decode cc pc = .ok (.invokespecial idx, 3)) (hf : 1 ≤ rm.frames) (hL : (st.map fun v => v.category).sum + 12 ≤ rm.locals) (kk : AW X nL k n ws pl (pc + 3) lo st) : AW X nL k n ws pl pc lo (.ref a :: st) := by
  obtain ⟨p, l, e, R, s, m, args, below, meth, c, g, A, Q⟩ := X
  obtain ⟨hx, hb, hml, hown, hts, hK, hA, hR, hF⟩ := C
  subst hR
  intro H locs ls hP hD hS hl
  refine W.objInit hx hb hown (hts _ hlk) (hts _ toi_im) (hts _ toi_cd) rfl (hl.1.trans hml.symm) rfl hd hf ?_ (kk H locs ls hP hD hS hl)
  show 2 * 0 + _ + 12 ≤ _
  omega
end AN2
def FzA (U : State) : Prop := va_AO "ShadySide$Sun" U ∧ va_AO "ShadySide$Walker" U ∧ va_AO "ShadySide$Town" U
/-- all facts that stay -/
def FzW (ka : KA) (A : Nat → Prop) (U : State) : Prop := FzD ka A U ∧ FzA U
theorem FzW_ok (ka : KA) : FzOk (FzW ka) := by
  intro A B s U hr hAB hk h
  have hal := rel_al hr
  exact ⟨FzD_ok ka A B s U hr hAB hk h.1, h.2.1.moved hal, h.2.2.1.moved hal, h.2.2.2.moved hal⟩
