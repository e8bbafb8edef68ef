/-! HEAP: fields, arrays, calls, contracts -/
abbrev aI (g : GG) (n : Nat) (f : Nat → Int32) : va_E := .inl (g.2 0, n, .inl f)
abbrev aJ (g : GG) (n : Nat) (f : Nat → Int64) : va_E := .inl (g.2 1, n, .inr (.inl f))
abbrev aZ (g : GG) (n : Nat) (f : Nat → Int32) : va_E := .inl (g.2 2, n, .inl f)
abbrev aS (g : GG) (n : Nat) (f : Nat → Option Nat) : va_E := .inl (g.2 3, n, .inr (.inr (.inr (.inr f))))
abbrev aW (g : GG) (n : Nat) (f : Nat → Option Nat) : va_E := .inl (g.2 4, n, .inr (.inr (.inr (.inr f))))
abbrev aT (g : GG) (n : Nat) (f : Nat → Option Nat) : va_E := .inl (g.2 5, n, .inr (.inr (.inr (.inr f))))
def FldOk (own : String) (idx ci k : Nat) : Prop := ∃ (C : String) (T : u_T) (N : Nat), vwCl[ci]? = some (C, T, N) ∧ k < N ∧ (∀ w ∈ u_ws C T N, w ∈ tb) ∧ Cond.fieldLink own idx (T k).1 (T k).2.1 (T k).2.2.1 ∈ tb
def PutOk (ci k : Nat) (fin : Bool) (dcl : String) (ty : FieldType) : Prop := ∃ (C : String) (T : u_T) (N : Nat) (ty0 : Nat → FieldType), vwCl[ci]? = some (C, T, N) ∧ (∀ k, k < N → parseFieldDescriptor (T k).2.2.1 = some (ty0 k)) ∧ (∀ a, a < N → ∀ b, b < N → a ≠ b → (T a).2.1 ≠ (T b).2.1) ∧ (T k).2.2.2 = fin ∧ (T k).1 = dcl ∧ parseFieldDescriptor (T k).2.2.1 = some ty
def Cini (X : Ctx) : Prop := match X with
  | (_, _, _, _, _, _, _, _, meth, _, _, _, _) => meth.name = "<init>"
theorem ap_l {ws pl : va_W} {i : Nat} {x : Nat × va_E} (h : ws[i]? = some x) : (ws ++ pl)[i]? = some x := by rw [List.getElem?_append_left (List.getElem?_eq_some_iff.mp h).1]; exact h
theorem set_l {ws pl : va_W} {i : Nat} {x y : Nat × va_E} (h : ws[i]? = some x) : (ws ++ pl).set i y = ws.set i y ++ pl := by rw [List.set_append_left _ _ (List.getElem?_eq_some_iff.mp h).1]
section AH
variable {X : Ctx} {cc : ByteArray} {nL k n : Nat} {own : String} {rm : Room} {Fz : (Nat → Prop) → State → Prop} {ws : va_W} {pl : Pool} {lo : List (Option Value)} {st : List Value} {pc : Nat}
theorem a_get (C : Cok X cc nL own rm Fz) {idx ci j a : Nat} {fs : List Value} {v : Value} (hf : FldOk own idx ci j) (hd : decode cc pc = .ok (.getfield idx, 3)) (q0 : Nat) (he : ws[q0]? = some (a, .inr (ci, fs))) (hv : fs[j]? = some v) (kk : AW X nL k n ws pl (pc + 3) lo (v :: st)) : AW X nL k n ws pl pc lo (.ref a :: st) := by
  obtain ⟨p, l, e, R, s, m, args, below, meth, c, g, A, Q⟩ := X
  obtain ⟨hx, hb, hml, hown, hts, hK, hA, hR, hF⟩ := C
  intro H locs ls hP hD hS hl
  obtain ⟨C, T, N, h1, h2, h3, h4⟩ := hf
  exact va_get hx hb hts h3 hown hK hP q0 (ap_l he) h1 j h2 (hts _ h4) (fun _ h => h) hv hd (kk H locs ls hP hD hS hl)
/-- a field of a cell of the pool -/
theorem a_getP (C : Cok X cc nL own rm Fz) {idx ci j a : Nat} {fs : List Value} {v : Value} (hf : FldOk own idx ci j) (hd : decode cc pc = .ok (.getfield idx, 3)) (he : (a, .inr (ci, fs)) ∈ pl) (hv : fs[j]? = some v) (kk : AW X nL k n ws pl (pc + 3) lo (v :: st)) : AW X nL k n ws pl pc lo (.ref a :: st) := by
  obtain ⟨p, l, e, R, s, m, args, below, meth, c, g, A, Q⟩ := X
  obtain ⟨hx, hb, hml, hown, hts, hK, hA, hR, hF⟩ := C
  intro H locs ls hP hD hS hl
  obtain ⟨C, T, N, h1, h2, h3, h4⟩ := hf
  obtain ⟨i, hi⟩ := List.getElem?_of_mem he
  exact va_get hx hb hts h3 hown hK (wP_r hP) i hi h1 j h2 (hts _ h4) (fun _ h => h) hv hd (kk H locs ls hP hD hS hl)
theorem a_put (C : Cok X cc nL own rm Fz) {idx ci j a : Nat} {fs : List Value} {v : Value} {dcl : String} {ty : FieldType} (hf : FldOk own idx ci j) (hp : PutOk ci j false dcl ty) (hd : decode cc pc = .ok (.putfield idx, 3)) (q0 : Nat) (he : ws[q0]? = some (a, .inr (ci, fs))) (hn : narrow ty v = v) (hfit : fits ty v = true) (hl : j < fs.length) (kk : AW X nL k n (ws.set q0 (a, .inr (ci, fs.set j v))) pl (pc + 3) lo st) : AW X nL k n ws pl pc lo (v :: .ref a :: st) := by
  obtain ⟨p, l, e, R, s, m, args, below, meth, c, g, A, Q⟩ := X
  obtain ⟨hx, hb, hml, hown, hts, hK, hA, hR, hF⟩ := C
  intro H locs ls hP hD hS hls
  obtain ⟨C, T, N, h1, h2, h3, h4⟩ := hf
  obtain ⟨C', T', N', ty0, g1, g2, g3, g4, g5, g6⟩ := hp
  rw [h1] at g1
  obtain ⟨rfl, rfl, rfl⟩ : C = C' ∧ T = T' ∧ N = N' := by simpa using g1
  exact va_put hx hb hts h3 ty0 g2 g3 hown hK hP hD hS q0 (ap_l he) h1 j h2 (hts _ h4) (fun _ h => h) g4 g6 hn hfit hl hd (fun H1 locs1 hP hD hS => by rw [set_l he] at hP hD; exact kk H1 locs1 ls hP hD hS hls)
theorem a_putF (C : Cok X cc nL own rm Fz) (hi : Cini X) {idx ci j a : Nat} {fs : List Value} {v : Value} {ty : FieldType} (hf : FldOk own idx ci j) (hp : PutOk ci j true own ty) (hd : decode cc pc = .ok (.putfield idx, 3)) (q0 : Nat) (he : ws[q0]? = some (a, .inr (ci, fs))) (hn : narrow ty v = v) (hfit : fits ty v = true) (hl : j < fs.length) (kk : AW X nL k n (ws.set q0 (a, .inr (ci, fs.set j v))) pl (pc + 3) lo st) : AW X nL k n ws pl pc lo (v :: .ref a :: st) := by
  obtain ⟨p, l, e, R, s, m, args, below, meth, c, g, A, Q⟩ := X
  obtain ⟨hx, hb, hml, hown, hts, hK, hA, hR, hF⟩ := C
  intro H locs ls hP hD hS hls
  obtain ⟨C, T, N, h1, h2, h3, h4⟩ := hf
  obtain ⟨C', T', N', ty0, g1, g2, g3, g4, g5, g6⟩ := hp
  rw [h1] at g1
  obtain ⟨rfl, rfl, rfl⟩ : C = C' ∧ T = T' ∧ N = N' := by simpa using g1
  exact va_putF hx hb hts h3 ty0 g2 g3 hown hK hP hD hS q0 (ap_l he) h1 j h2 (hts _ h4) (fun _ h => h) g4 hi g5 g6 hn hfit hl hd (fun H1 locs1 hP hD hS => by rw [set_l he] at hP hD; exact kk H1 locs1 ls hP hD hS hls)
theorem a_iald (C : Cok X cc nL own rm Fz) {a N : Nat} {f : Nat → Int32} {i : Int32} (hd : decode cc pc = .ok (.iaload, 1)) (q0 : Nat) (he : ws[q0]? = some (a, aI (cxG X) N f)) (hin : vp_in i N) (kk : AW X nL k n ws pl (pc + 1) lo (.int (f i.toNatClampNeg) :: st)) : AW X nL k n ws pl pc lo (.int i :: .ref a :: st) := by
  obtain ⟨p, l, e, R, s, m, args, below, meth, c, g, A, Q⟩ := X
  obtain ⟨hx, hb, hml, hown, hts, hK, hA, hR, hF⟩ := C
  intro H locs ls hP hD hS hl
  exact va_iald hx hb hK hP q0 0 (ap_l he) rfl hin hd (kk H locs ls hP hD hS hl)
theorem a_zald (C : Cok X cc nL own rm Fz) {a N : Nat} {f : Nat → Int32} {i : Int32} (hd : decode cc pc = .ok (.baload, 1)) (q0 : Nat) (he : ws[q0]? = some (a, aZ (cxG X) N f)) (hin : vp_in i N) (kk : AW X nL k n ws pl (pc + 1) lo (.int (f i.toNatClampNeg) :: st)) : AW X nL k n ws pl pc lo (.int i :: .ref a :: st) := by
  obtain ⟨p, l, e, R, s, m, args, below, meth, c, g, A, Q⟩ := X
  obtain ⟨hx, hb, hml, hown, hts, hK, hA, hR, hF⟩ := C
  intro H locs ls hP hD hS hl
  exact va_zald hx hb hK hP q0 2 (ap_l he) rfl hin hd (kk H locs ls hP hD hS hl)
theorem a_lald (C : Cok X cc nL own rm Fz) {a N : Nat} {f : Nat → Int64} {i : Int32} (hd : decode cc pc = .ok (.laload, 1)) (q0 : Nat) (he : ws[q0]? = some (a, aJ (cxG X) N f)) (hin : vp_in i N) (kk : AW X nL k n ws pl (pc + 1) lo (.long (f i.toNatClampNeg) :: st)) : AW X nL k n ws pl pc lo (.int i :: .ref a :: st) := by
  obtain ⟨p, l, e, R, s, m, args, below, meth, c, g, A, Q⟩ := X
  obtain ⟨hx, hb, hml, hown, hts, hK, hA, hR, hF⟩ := C
  intro H locs ls hP hD hS hl
  exact va_lald hx hb hK hP q0 1 (ap_l he) rfl hin hd (kk H locs ls hP hD hS hl)
theorem a_iast (C : Cok X cc nL own rm Fz) {a N : Nat} {f : Nat → Int32} {i : Int32} {x : Int32} (hd : decode cc pc = .ok (.iastore, 1)) (q0 : Nat) (he : ws[q0]? = some (a, aI (cxG X) N f)) (hin : vp_in i N) (kk : AW X nL k n (ws.set q0 (a, aI (cxG X) N (upd f i.toNatClampNeg x))) pl (pc + 1) lo st) : AW X nL k n ws pl pc lo (.int x :: .int i :: .ref a :: st) := by
  obtain ⟨p, l, e, R, s, m, args, below, meth, c, g, A, Q⟩ := X
  obtain ⟨hx, hb, hml, hown, hts, hK, hA, hR, hF⟩ := C
  intro H locs ls hP hD hS hl
  exact va_iast hx hb hK hP hD hS q0 0 (ap_l he) rfl hin hd (fun H1 locs1 hP hD hS => by rw [set_l he] at hP hD; exact kk H1 locs1 ls hP hD hS hl)
theorem a_zast (C : Cok X cc nL own rm Fz) {a N : Nat} {f : Nat → Int32} {i : Int32} {x : Int32} (hd : decode cc pc = .ok (.bastore, 1)) (q0 : Nat) (he : ws[q0]? = some (a, aZ (cxG X) N f)) (hin : vp_in i N) (kk : AW X nL k n (ws.set q0 (a, aZ (cxG X) N (upd f i.toNatClampNeg (vp_nar .boolean x)))) pl (pc + 1) lo st) : AW X nL k n ws pl pc lo (.int x :: .int i :: .ref a :: st) := by
  obtain ⟨p, l, e, R, s, m, args, below, meth, c, g, A, Q⟩ := X
  obtain ⟨hx, hb, hml, hown, hts, hK, hA, hR, hF⟩ := C
  intro H locs ls hP hD hS hl
  exact va_zast hx hb hK hP hD hS q0 2 (ap_l he) rfl hin hd (fun H1 locs1 hP hD hS => by rw [set_l he] at hP hD; exact kk H1 locs1 ls hP hD hS hl)
theorem a_last (C : Cok X cc nL own rm Fz) {a N : Nat} {f : Nat → Int64} {i : Int32} {x : Int64} (hd : decode cc pc = .ok (.lastore, 1)) (q0 : Nat) (he : ws[q0]? = some (a, aJ (cxG X) N f)) (hin : vp_in i N) (kk : AW X nL k n (ws.set q0 (a, aJ (cxG X) N (vp_updL f i.toNatClampNeg x))) pl (pc + 1) lo st) : AW X nL k n ws pl pc lo (.long x :: .int i :: .ref a :: st) := by
  obtain ⟨p, l, e, R, s, m, args, below, meth, c, g, A, Q⟩ := X
  obtain ⟨hx, hb, hml, hown, hts, hK, hA, hR, hF⟩ := C
  intro H locs ls hP hD hS hl
  exact va_last hx hb hK hP hD hS q0 1 (ap_l he) rfl hin hd (fun H1 locs1 hP hD hS => by rw [set_l he] at hP hD; exact kk H1 locs1 ls hP hD hS hl)
theorem a_alenI (C : Cok X cc nL own rm Fz) {a N : Nat} {f : Nat → Int32} (hd : decode cc pc = .ok (.arraylength, 1)) (q0 : Nat) (he : ws[q0]? = some (a, aI (cxG X) N f)) (kk : AW X nL k n ws pl (pc + 1) lo (.int (nI N) :: st)) : AW X nL k n ws pl pc lo (.ref a :: st) := by
  obtain ⟨p, l, e, R, s, m, args, below, meth, c, g, A, Q⟩ := X
  obtain ⟨hx, hb, hml, hown, hts, hK, hA, hR, hF⟩ := C
  intro H locs ls hP hD hS hl
  exact va_alen hx hb hK hP q0 0 (ap_l he) rfl rfl hd (kk H locs ls hP hD hS hl)
theorem a_alenJ (C : Cok X cc nL own rm Fz) {a N : Nat} {f : Nat → Int64} (hd : decode cc pc = .ok (.arraylength, 1)) (q0 : Nat) (he : ws[q0]? = some (a, aJ (cxG X) N f)) (kk : AW X nL k n ws pl (pc + 1) lo (.int (nI N) :: st)) : AW X nL k n ws pl pc lo (.ref a :: st) := by
  obtain ⟨p, l, e, R, s, m, args, below, meth, c, g, A, Q⟩ := X
  obtain ⟨hx, hb, hml, hown, hts, hK, hA, hR, hF⟩ := C
  intro H locs ls hP hD hS hl
  exact va_alen hx hb hK hP q0 1 (ap_l he) rfl rfl hd (kk H locs ls hP hD hS hl)
theorem a_alenZ (C : Cok X cc nL own rm Fz) {a N : Nat} {f : Nat → Int32} (hd : decode cc pc = .ok (.arraylength, 1)) (q0 : Nat) (he : ws[q0]? = some (a, aZ (cxG X) N f)) (kk : AW X nL k n ws pl (pc + 1) lo (.int (nI N) :: st)) : AW X nL k n ws pl pc lo (.ref a :: st) := by
  obtain ⟨p, l, e, R, s, m, args, below, meth, c, g, A, Q⟩ := X
  obtain ⟨hx, hb, hml, hown, hts, hK, hA, hR, hF⟩ := C
  intro H locs ls hP hD hS hl
  exact va_alen hx hb hK hP q0 2 (ap_l he) rfl rfl hd (kk H locs ls hP hD hS hl)
theorem a_alenS (C : Cok X cc nL own rm Fz) {a N : Nat} {f : Nat → Option Nat} (hd : decode cc pc = .ok (.arraylength, 1)) (q0 : Nat) (he : ws[q0]? = some (a, aS (cxG X) N f)) (kk : AW X nL k n ws pl (pc + 1) lo (.int (nI N) :: st)) : AW X nL k n ws pl pc lo (.ref a :: st) := by
  obtain ⟨p, l, e, R, s, m, args, below, meth, c, g, A, Q⟩ := X
  obtain ⟨hx, hb, hml, hown, hts, hK, hA, hR, hF⟩ := C
  intro H locs ls hP hD hS hl
  exact va_alen hx hb hK hP q0 3 (ap_l he) rfl rfl hd (kk H locs ls hP hD hS hl)
theorem a_alenW (C : Cok X cc nL own rm Fz) {a N : Nat} {f : Nat → Option Nat} (hd : decode cc pc = .ok (.arraylength, 1)) (q0 : Nat) (he : ws[q0]? = some (a, aW (cxG X) N f)) (kk : AW X nL k n ws pl (pc + 1) lo (.int (nI N) :: st)) : AW X nL k n ws pl pc lo (.ref a :: st) := by
  obtain ⟨p, l, e, R, s, m, args, below, meth, c, g, A, Q⟩ := X
  obtain ⟨hx, hb, hml, hown, hts, hK, hA, hR, hF⟩ := C
  intro H locs ls hP hD hS hl
  exact va_alen hx hb hK hP q0 4 (ap_l he) rfl rfl hd (kk H locs ls hP hD hS hl)
theorem a_alenT (C : Cok X cc nL own rm Fz) {a N : Nat} {f : Nat → Option Nat} (hd : decode cc pc = .ok (.arraylength, 1)) (q0 : Nat) (he : ws[q0]? = some (a, aT (cxG X) N f)) (kk : AW X nL k n ws pl (pc + 1) lo (.int (nI N) :: st)) : AW X nL k n ws pl pc lo (.ref a :: st) := by
  obtain ⟨p, l, e, R, s, m, args, below, meth, c, g, A, Q⟩ := X
  obtain ⟨hx, hb, hml, hown, hts, hK, hA, hR, hF⟩ := C
  intro H locs ls hP hD hS hl
  exact va_alen hx hb hK hP q0 5 (ap_l he) rfl rfl hd (kk H locs ls hP hD hS hl)
theorem a_aldS (C : Cok X cc nL own rm Fz) {a N : Nat} {f : Nat → Option Nat} {i : Int32} (hd : decode cc pc = .ok (.aaload, 1)) (q0 : Nat) (he : ws[q0]? = some (a, aS (cxG X) N f)) (hin : vp_in i N) (kk : AW X nL k n ws pl (pc + 1) lo (va_rf (f i.toNatClampNeg) :: st)) : AW X nL k n ws pl pc lo (.int i :: .ref a :: st) := by
  obtain ⟨p, l, e, R, s, m, args, below, meth, c, g, A, Q⟩ := X
  obtain ⟨hx, hb, hml, hown, hts, hK, hA, hR, hF⟩ := C
  intro H locs ls hP hD hS hl
  exact va_aldq hx hb hK hP q0 3 (ap_l he) rfl hin hd (kk H locs ls hP hD hS hl)
theorem a_aldW (C : Cok X cc nL own rm Fz) {a N : Nat} {f : Nat → Option Nat} {i : Int32} (hd : decode cc pc = .ok (.aaload, 1)) (q0 : Nat) (he : ws[q0]? = some (a, aW (cxG X) N f)) (hin : vp_in i N) (kk : AW X nL k n ws pl (pc + 1) lo (va_rf (f i.toNatClampNeg) :: st)) : AW X nL k n ws pl pc lo (.int i :: .ref a :: st) := by
  obtain ⟨p, l, e, R, s, m, args, below, meth, c, g, A, Q⟩ := X
  obtain ⟨hx, hb, hml, hown, hts, hK, hA, hR, hF⟩ := C
  intro H locs ls hP hD hS hl
  exact va_aldq hx hb hK hP q0 4 (ap_l he) rfl hin hd (kk H locs ls hP hD hS hl)
theorem a_aldT (C : Cok X cc nL own rm Fz) {a N : Nat} {f : Nat → Option Nat} {i : Int32} (hd : decode cc pc = .ok (.aaload, 1)) (q0 : Nat) (he : ws[q0]? = some (a, aT (cxG X) N f)) (hin : vp_in i N) (kk : AW X nL k n ws pl (pc + 1) lo (va_rf (f i.toNatClampNeg) :: st)) : AW X nL k n ws pl pc lo (.int i :: .ref a :: st) := by
  obtain ⟨p, l, e, R, s, m, args, below, meth, c, g, A, Q⟩ := X
  obtain ⟨hx, hb, hml, hown, hts, hK, hA, hR, hF⟩ := C
  intro H locs ls hP hD hS hl
  exact va_aldq hx hb hK hP q0 5 (ap_l he) rfl hin hd (kk H locs ls hP hD hS hl)
theorem a_putW (C : Cok X cc nL own rm Fz) {idx ci j a : Nat} {fs : List Value} {v : Value} {dcl : String} {ty : FieldType} {ws' : va_W} (hf : FldOk own idx ci j) (hp : PutOk ci j false dcl ty) (hd : decode cc pc = .ok (.putfield idx, 3)) (q0 : Nat) (he : ws[q0]? = some (a, .inr (ci, fs))) (hn : narrow ty v = v) (hfit : fits ty v = true) (hl : j < fs.length) (hw : ws.set q0 (a, .inr (ci, fs.set j v)) = ws') (kk : AW X nL k n ws' pl (pc + 3) lo st) : AW X nL k n ws pl pc lo (v :: .ref a :: st) := by
  subst hw
  exact a_put C hf hp hd q0 he hn hfit hl kk
theorem a_putFW (C : Cok X cc nL own rm Fz) (hi : Cini X) {idx ci j a : Nat} {fs : List Value} {v : Value} {ty : FieldType} {ws' : va_W} (hf : FldOk own idx ci j) (hp : PutOk ci j true own ty) (hd : decode cc pc = .ok (.putfield idx, 3)) (q0 : Nat) (he : ws[q0]? = some (a, .inr (ci, fs))) (hn : narrow ty v = v) (hfit : fits ty v = true) (hl : j < fs.length) (hw : ws.set q0 (a, .inr (ci, fs.set j v)) = ws') (kk : AW X nL k n ws' pl (pc + 3) lo st) : AW X nL k n ws pl pc lo (v :: .ref a :: st) := by
  subst hw
  exact a_putF C hi hf hp hd q0 he hn hfit hl kk
theorem a_iastW (C : Cok X cc nL own rm Fz) {a N : Nat} {f : Nat → Int32} {i : Int32} {x : Int32} (ws' : (Nat → Int32) → va_W) (hd : decode cc pc = .ok (.iastore, 1)) (q0 : Nat) (he : ws[q0]? = some (a, aI (cxG X) N f)) (hin : vp_in i N) (hw : ∀ h, ws.set q0 (a, aI (cxG X) N h) = ws' h) (kk : ∀ h, h = upd f i.toNatClampNeg x → AW X nL k n (ws' h) pl (pc + 1) lo st) : AW X nL k n ws pl pc lo (.int x :: .int i :: .ref a :: st) := by
  refine a_iast C hd q0 he hin ?_
  rw [hw]
  exact kk _ rfl
theorem a_zastW (C : Cok X cc nL own rm Fz) {a N : Nat} {f : Nat → Int32} {i : Int32} {x : Int32} (ws' : (Nat → Int32) → va_W) (hd : decode cc pc = .ok (.bastore, 1)) (q0 : Nat) (he : ws[q0]? = some (a, aZ (cxG X) N f)) (hin : vp_in i N) (hw : ∀ h, ws.set q0 (a, aZ (cxG X) N h) = ws' h) (kk : ∀ h, h = upd f i.toNatClampNeg (vp_nar .boolean x) → AW X nL k n (ws' h) pl (pc + 1) lo st) : AW X nL k n ws pl pc lo (.int x :: .int i :: .ref a :: st) := by
  refine a_zast C hd q0 he hin ?_
  rw [hw]
  exact kk _ rfl
theorem a_lastW (C : Cok X cc nL own rm Fz) {a N : Nat} {f : Nat → Int64} {i : Int32} {x : Int64} (ws' : (Nat → Int64) → va_W) (hd : decode cc pc = .ok (.lastore, 1)) (q0 : Nat) (he : ws[q0]? = some (a, aJ (cxG X) N f)) (hin : vp_in i N) (hw : ∀ h, ws.set q0 (a, aJ (cxG X) N h) = ws' h) (kk : ∀ h, h = vp_updL f i.toNatClampNeg x → AW X nL k n (ws' h) pl (pc + 1) lo st) : AW X nL k n ws pl pc lo (.long x :: .int i :: .ref a :: st) := by
  refine a_last C hd q0 he hin ?_
  rw [hw]
  exact kk _ rfl
/-- a loop ends in what its body gives, by an invariant and a measure -/
theorem b01_nar {r : Int32} (h : b01 r) : narrow .boolean (.int r) = .int r := by
  rcases h with rfl | rfl <;> rfl
theorem nar_b01 {r : Int32} (h : narrow .boolean (.int r) = .int r) : b01 r := by
  have h1 : r &&& 1 = r := by
    have := h
    simp only [narrow] at this
    exact Value.int.inj this
  have h2 := pk_and r (m := 1) 1 (by decide)
  rw [h1] at h2
  rcases (show r.toBitVec.toNat % 2 ^ 1 = 0 ∨ r.toBitVec.toNat % 2 ^ 1 = 1 by omega) with z | z
  · rw [z] at h2
    exact Or.inl h2
  · rw [z] at h2
    exact Or.inr h2
end AH
