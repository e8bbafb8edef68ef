/-! RULES for the component -/
theorem tac_st : Cond.static arraycopyName ∈ tb := tb_m (tx_4 222 rfl) rfl
theorem tac_na : Cond.native arraycopyName ∈ tb := tb_m (tx_4 223 rfl) rfl
theorem tml_X8_81 : Cond.methodLink RX8 81 arraycopyName ∈ tb := tb_m (tx_4 221 rfl) rfl
theorem tml_X5_52 : Cond.methodLink RX5 52 arraycopyName ∈ tb := tb_m (tx_4 229 rfl) rfl
theorem tml_X1_91 : Cond.methodLink RX1 91 arraycopyName ∈ tb := tb_m (tx_6 151 rfl) rfl
theorem tml_X9_116 : Cond.methodLink RX9 116 arraycopyName ∈ tb := tb_m (tx_6 190 rfl) rfl
def nestL : List (String × Nat × MethodName × String) := [(RX11, 9, yX8_init, "ShadySide"), (RX1, 100, yX11_isSquare, "ShadySide"), (RX3, 87, yX11_row, "ShadySide"), (RX4, 31, yX2_init, "ShadySide"), (RX4, 146, yX11_row, "ShadySide"), (RX4, 186, yX10_init, "ShadySide"), (RX6, 81, yX11_away, "ShadySide"), (RX6, 107, yX11_isTime, "ShadySide"), (RX6, 111, yX11_row, "ShadySide"), (RX6, 132, yX11_isSquare, "ShadySide"), (RX7, 27, yX11_away, "ShadySide"), (RX8, 94, yX11_isSquare, "ShadySide"), (RX9, 42, yX10_init, "ShadySide"), (RX9, 76, yX11_row, "ShadySide"), (RX9, 206, yX11_isMinute, "ShadySide"), (RX9, 209, yX11_isSquare, "ShadySide"), (RX9, 251, yX11_away, "ShadySide")]
def FzS (n : String) (f : Nat → Int32) (A : Nat → Prop) (U : State) : Prop := ∃ t : Nat, va_Z "ShadySide" n "[I" (.ref t) A U U.heap ∧ va_T .int t 8 (fun j => .int (f j)) A U U.heap
abbrev KA : Type := (Nat → Nat) × (Nat → Nat)
def FzK (ka : KA) (A : Nat → Prop) (U : State) : Prop := vk_S 2 kLen kByt ka.1 ka.2 A U U.heap ∧ vk_R "ShadySide$Reader" 243 "house tree arcade awning shut water sun walker when from over pace bears mends ice hot cool and or not minute day north northeast east southeast south southwest west northwest" (ka.1 0) U ∧ vk_R "ShadySide$Reader" 227 "()<=+-*;" (ka.1 1) U
def FzJ (A : Nat → Prop) (U : State) : Prop := va_Z "java/lang/String" "COMPACT_STRINGS" "Z" (.int 1) A U U.heap ∧ va_Zq "jdk/internal/util/Preconditions" "SIOOBE_FORMATTER" "Ljava/util/function/BiFunction;" A U U.heap
def FzC (ka : KA) (A : Nat → Prop) (U : State) : Prop := (∀ q ∈ nestL, va_Nw (.methodLinkNest q.1 q.2.1 q.2.2.1 q.2.2.2) U) ∧ FzS "EAST" eastF A U ∧ FzS "SOUTH" southF A U ∧ FzK ka A U ∧ FzJ A U
theorem rel_al {s U : State} (h : s.vm = U.vm ∨ s.WarmedH U.vm) : s.vm.Alike U.vm := by
  rcases h with h | h
  · rw [← h]
    exact Vm.Alike.refl _
  · exact h.alike
theorem FzC_ok (ka : KA) : FzOk (FzC ka) := by
  intro A B s U hr hAB hk h
  obtain ⟨h1, ⟨t1, z1, z2⟩, ⟨t2, z3, z4⟩, ⟨k1, k2, k3⟩, j1, j2⟩ := h
  have hal := rel_al hr
  have hR : ∀ {own tx : String} {k a : Nat}, vk_R own k tx a s → vk_R own k tx a U := by
    intro own tx k a hz
    rcases hr with e | e
    · exact vk_R.same e.symm hz
    · exact vk_R.warm e hz
  refine ⟨fun q hq => ?_, ⟨t1, ((z1.kept hk).narrow hAB).moved hal, ((z2.kept hk).narrow hAB).moved hal⟩, ⟨t2, ((z3.kept hk).narrow hAB).moved hal, ((z4.kept hk).narrow hAB).moved hal⟩, ⟨((k1.kept hk).narrow hAB).moved hal, hR k2, hR k3⟩, ((j1.kept hk).narrow hAB).moved hal, ((j2.kept hk).narrow hAB).moved hal⟩
  rcases hr with e | e
  · exact va_Nw.same rfl e (h1 q hq)
  · exact va_Nw.warmM e (h1 q hq)
theorem okS_rf {lo : List (Option Value)} {i : Nat} {r : Option Nat} (h : lo[i]? = some (some (va_rf r))) : okS lo (i + 1) = true := by
  simp only [okS, h]
  cases r <;> rfl
/-- a reference that is there or null -/
def xr (b : Bool) (a : Nat) : Value := match b with
  | true => .ref a
  | false => .null
theorem okS_xr {lo : List (Option Value)} {i : Nat} {b : Bool} {a : Nat} (h : lo[i]? = some (some (xr b a))) : okS lo (i + 1) = true := by
  simp only [okS, h]
  cases b <;> rfl
section AE
variable {X : Ctx} {cc : ByteArray} {nL k n : Nat} {own : String} {rm : Room} {Fz : (Nat → Prop) → State → Prop} {ws : va_W} {pl : Pool} {lo lo' : List (Option Value)} {st : List Value} {pc : Nat}
theorem a_cpi (C : Cok X cc nL own rm Fz) {idx a0 a1 N0 N1 : Nat} {f g : Nat → Int32} {sp dp m : Int32} (ws' : (Nat → Int32) → va_W) (hd : decode cc pc = .ok (.invokestatic idx, 3)) (h1 : Cond.methodLink own idx arraycopyName ∈ tb) (h4 : Cond.initialized "java/lang/System" ∈ tb) (q0 q1 : Nat) (he0 : ws[q0]? = some (a0, aI (cxG X) N0 f)) (he1 : ws[q1]? = some (a1, aI (cxG X) N1 g)) (c1 : ¬ sp < 0) (c2 : ¬ dp < 0) (c3 : ¬ m < 0) (c4 : sp.toNatClampNeg + m.toNatClampNeg ≤ N0) (c5 : dp.toNatClampNeg + m.toNatClampNeg ≤ N1) (hf : 1 ≤ rm.frames) (hL : (st.map fun v => v.category).sum + (nativeFrameWords "java/lang/System" "arraycopy" 5 + 11) ≤ rm.locals) (hw : ∀ h, ws.set q1 (a1, aI (cxG X) N1 h) = ws' h) (kk : ∀ h, h = va_cpy f g sp.toNatClampNeg dp.toNatClampNeg m.toNatClampNeg → AW X nL k n (ws' h) pl (pc + 3) lo st) : AW X nL k n ws pl pc lo (.int m :: .int dp :: .ref a1 :: .int sp :: .ref a0 :: st) := by
  obtain ⟨p, l, e, R, s, mm, args, below, meth, c, gg, A, Q⟩ := X
  obtain ⟨hx, hb, hml, hown, hts, hK, hA, hR, hF⟩ := C
  subst hR
  intro H locs ls hP hD hS hl
  exact va_copyi hx hb (hml.trans hl.1.symm) hown (hts _ h1) (hts _ tac_na) (hts _ tac_st) (hts _ h4) hK hP hD hS q0 q1 0 0 (ap_l he0) (ap_l he1) rfl rfl rfl c1 c2 c3 c4 c5 (fun _ _ => rfl) hf hL hd (fun H1 locs1 hP hD hS => by
    rw [set_l he1, hw] at hP hD
    exact kk _ rfl H1 locs1 ls hP hD hS hl)
theorem a_cpl (C : Cok X cc nL own rm Fz) {idx a0 a1 N0 N1 : Nat} {f g : Nat → Int64} {sp dp m : Int32} (ws' : (Nat → Int64) → va_W) (hd : decode cc pc = .ok (.invokestatic idx, 3)) (h1 : Cond.methodLink own idx arraycopyName ∈ tb) (h4 : Cond.initialized "java/lang/System" ∈ tb) (q0 q1 : Nat) (he0 : ws[q0]? = some (a0, aJ (cxG X) N0 f)) (he1 : ws[q1]? = some (a1, aJ (cxG X) N1 g)) (c1 : ¬ sp < 0) (c2 : ¬ dp < 0) (c3 : ¬ m < 0) (c4 : sp.toNatClampNeg + m.toNatClampNeg ≤ N0) (c5 : dp.toNatClampNeg + m.toNatClampNeg ≤ N1) (hf : 1 ≤ rm.frames) (hL : (st.map fun v => v.category).sum + (nativeFrameWords "java/lang/System" "arraycopy" 5 + 11) ≤ rm.locals) (hw : ∀ h, ws.set q1 (a1, aJ (cxG X) N1 h) = ws' h) (kk : ∀ h, h = va_cpy f g sp.toNatClampNeg dp.toNatClampNeg m.toNatClampNeg → AW X nL k n (ws' h) pl (pc + 3) lo st) : AW X nL k n ws pl pc lo (.int m :: .int dp :: .ref a1 :: .int sp :: .ref a0 :: st) := by
  obtain ⟨p, l, e, R, s, mm, args, below, meth, c, gg, A, Q⟩ := X
  obtain ⟨hx, hb, hml, hown, hts, hK, hA, hR, hF⟩ := C
  subst hR
  intro H locs ls hP hD hS hl
  exact va_copyl hx hb (hml.trans hl.1.symm) hown (hts _ h1) (hts _ tac_na) (hts _ tac_st) (hts _ h4) hK hP hD hS q0 q1 1 1 (ap_l he0) (ap_l he1) rfl rfl rfl c1 c2 c3 c4 c5 (fun _ _ => rfl) hf hL hd (fun H1 locs1 hP hD hS => by
    rw [set_l he1, hw] at hP hD
    exact kk _ rfl H1 locs1 ls hP hD hS hl)
theorem a_ifnullO (C : Cok X cc nL own rm Fz) {r : Option Nat} {off : Int} {tgt : Nat} (hd : decode cc pc = .ok (.ifnull off, 3)) (ht : (pc : Int) + off = (tgt : Int)) (kt : r = none → AW X nL k n ws pl tgt lo st) (kf : ∀ q, r = some q → AW X nL k n ws pl (pc + 3) lo st) : AW X nL k n ws pl pc lo (va_rf r :: st) := by
  cases r with
  | none => exact a_ifnullN C hd ht (kt rfl)
  | some q => exact a_ifnull C hd (kf q rfl)
theorem a_ifnonnullO (C : Cok X cc nL own rm Fz) {r : Option Nat} {off : Int} {tgt : Nat} (hd : decode cc pc = .ok (.ifnonnull off, 3)) (ht : (pc : Int) + off = (tgt : Int)) (kt : ∀ q, r = some q → AW X nL k n ws pl tgt lo st) (kf : r = none → AW X nL k n ws pl (pc + 3) lo st) : AW X nL k n ws pl pc lo (va_rf r :: st) := by
  cases r with
  | none => exact a_ifnonnullN C hd (kf rfl)
  | some q => exact a_ifnonnull C hd ht (kt q rfl)
theorem a_ifnullX (C : Cok X cc nL own rm Fz) {b : Bool} {a : Nat} {off : Int} {tgt : Nat} (hd : decode cc pc = .ok (.ifnull off, 3)) (ht : (pc : Int) + off = (tgt : Int)) (kt : b = false → AW X nL k n ws pl tgt lo st) (kf : b = true → AW X nL k n ws pl (pc + 3) lo st) : AW X nL k n ws pl pc lo (xr b a :: st) := by
  cases b with
  | false => exact a_ifnullN C hd ht (kt rfl)
  | true => exact a_ifnull C hd (kf rfl)
theorem a_ifnonnullX (C : Cok X cc nL own rm Fz) {b : Bool} {a : Nat} {off : Int} {tgt : Nat} (hd : decode cc pc = .ok (.ifnonnull off, 3)) (ht : (pc : Int) + off = (tgt : Int)) (kt : b = true → AW X nL k n ws pl tgt lo st) (kf : b = false → AW X nL k n ws pl (pc + 3) lo st) : AW X nL k n ws pl pc lo (xr b a :: st) := by
  cases b with
  | false => exact a_ifnonnullN C hd (kf rfl)
  | true => exact a_ifnonnull C hd ht (kt rfl)
theorem a_aloadO (C : Cok X cc nL own rm Fz) {i : Nat} {r : Option Nat} (hd : decode cc pc = .ok (.aload i, 2)) (hv : lo[i]? = some (some (va_rf r))) (kk : AW X nL k n ws pl (pc + 2) lo (va_rf r :: st)) : AW X nL k n ws pl pc lo st := by
  cases r with
  | none => exact a_aloadN C hd hv kk
  | some q => exact a_aload C hd hv kk
theorem a_aload_nO (C : Cok X cc nL own rm Fz) {j : Fin 4} {i : Nat} {r : Option Nat} (hd : decode cc pc = .ok (.aload_n j, 1)) (hi : (j : Nat) = i) (hv : lo[i]? = some (some (va_rf r))) (kk : AW X nL k n ws pl (pc + 1) lo (va_rf r :: st)) : AW X nL k n ws pl pc lo st := by
  cases r with
  | none => exact a_aload_nN C hd hi hv kk
  | some q => exact a_aload_n C hd hi hv kk
theorem s_astoreO (C : Cok X cc nL own rm Fz) {i : Nat} {r : Option Nat} (hd : decode cc pc = .ok (.astore i, 2)) (hn : i < nL) (h0 : okS lo i = true) (hl : lo.set i (some (va_rf r)) = lo') (kk : AW X nL k n ws pl (pc + 2) lo' st) : AW X nL k n ws pl pc lo (va_rf r :: st) := by
  cases r with
  | none => exact s_astoreN C hd hn h0 hl kk
  | some q => exact s_astore C hd hn h0 hl kk
theorem s_astore_nO (C : Cok X cc nL own rm Fz) {j : Fin 4} {i : Nat} {r : Option Nat} (hd : decode cc pc = .ok (.astore_n j, 1)) (hi : (j : Nat) = i) (hn : i < nL) (h0 : okS lo i = true) (hl : lo.set i (some (va_rf r)) = lo') (kk : AW X nL k n ws pl (pc + 1) lo' st) : AW X nL k n ws pl pc lo (va_rf r :: st) := by
  cases r with
  | none => exact s_astore_nN C hd hi hn h0 hl kk
  | some q => exact s_astore_n C hd hi hn h0 hl kk
theorem a_astSN (C : Cok X cc nL own rm Fz) {a N : Nat} {f : Nat → Option Nat} {i : Int32} (ws' : (Nat → Option Nat) → va_W) (hd : decode cc pc = .ok (.aastore, 1)) (q0 : Nat) (he : ws[q0]? = some (a, aS (cxG X) N f)) (hin : vp_in i N) (hw : ∀ h, ws.set q0 (a, aS (cxG X) N h) = ws' h) (kk : ∀ h, h = va_up f i.toNatClampNeg none → AW X nL k n (ws' h) pl (pc + 1) lo st) : AW X nL k n ws pl pc lo (.null :: .int i :: .ref a :: st) := by
  obtain ⟨p, l, e, R, s, m, args, below, meth, c, g, A, Q⟩ := X
  obtain ⟨hx, hb, hml, hown, hts, hK, hA, hR, hF⟩ := C
  subst hR
  intro H locs ls hP hD hS hl
  exact va_astqN hx hb hK hP hD hS q0 3 (ap_l he) rfl hin hd (fun H1 locs1 hP hD hS => by
    rw [set_l he, hw] at hP hD
    exact kk _ rfl H1 locs1 ls hP hD hS hl)
/-- an object of the world or of the pool comes into a row of references -/
theorem a_astS (C : Cok X cc nL own rm Fz) {a N v : Nat} {f : Nat → Option Nat} {i : Int32} {vs : List Value} (ws' : (Nat → Option Nat) → va_W) (hd : decode cc pc = .ok (.aastore, 1)) (q0 : Nat) (he : ws[q0]? = some (a, aS (cxG X) N f)) (hv : (v, ob 7 vs) ∈ ws ++ pl) (hin : vp_in i N) (hw : ∀ h, ws.set q0 (a, aS (cxG X) N h) = ws' h) (kk : ∀ h, h = va_up f i.toNatClampNeg (some v) → AW X nL k n (ws' h) pl (pc + 1) lo st) : AW X nL k n ws pl pc lo (.ref v :: .int i :: .ref a :: st) := by
  obtain ⟨p, l, e, R, s, m, args, below, meth, c, g, A, Q⟩ := X
  obtain ⟨hx, hb, hml, hown, hts, hK, hA, hR, hF⟩ := C
  subst hR
  intro H locs ls hP hD hS hl
  obtain ⟨qk, hqk⟩ := List.getElem?_of_mem hv
  exact va_astq hx hb hK hP hD hS q0 3 qk 7 (ap_l he) rfl hqk rfl hin hd (fun H1 locs1 hP hD hS => by
    rw [set_l he, hw] at hP hD
    exact kk _ rfl H1 locs1 ls hP hD hS hl)
theorem a_astSO (C : Cok X cc nL own rm Fz) {a N : Nat} {r : Option Nat} {f : Nat → Option Nat} {i : Int32} (ws' : (Nat → Option Nat) → va_W) (hd : decode cc pc = .ok (.aastore, 1)) (q0 : Nat) (he : ws[q0]? = some (a, aS (cxG X) N f)) (hv : ∀ v, r = some v → ∃ vs, (v, ob 7 vs) ∈ pl) (hin : vp_in i N) (hw : ∀ h, ws.set q0 (a, aS (cxG X) N h) = ws' h) (kk : ∀ h, h = va_up f i.toNatClampNeg r → AW X nL k n (ws' h) pl (pc + 1) lo st) : AW X nL k n ws pl pc lo (va_rf r :: .int i :: .ref a :: st) := by
  cases r with
  | none => exact a_astSN C ws' hd q0 he hin hw kk
  | some v =>
    obtain ⟨vs, h⟩ := hv v rfl
    exact a_astS C ws' hd q0 he (List.mem_append_right _ h) hin hw kk
theorem a_astWN (C : Cok X cc nL own rm Fz) {a N : Nat} {f : Nat → Option Nat} {i : Int32} (ws' : (Nat → Option Nat) → va_W) (hd : decode cc pc = .ok (.aastore, 1)) (q0 : Nat) (he : ws[q0]? = some (a, aW (cxG X) N f)) (hin : vp_in i N) (hw : ∀ h, ws.set q0 (a, aW (cxG X) N h) = ws' h) (kk : ∀ h, h = va_up f i.toNatClampNeg none → AW X nL k n (ws' h) pl (pc + 1) lo st) : AW X nL k n ws pl pc lo (.null :: .int i :: .ref a :: st) := by
  obtain ⟨p, l, e, R, s, m, args, below, meth, c, g, A, Q⟩ := X
  obtain ⟨hx, hb, hml, hown, hts, hK, hA, hR, hF⟩ := C
  subst hR
  intro H locs ls hP hD hS hl
  exact va_astqN hx hb hK hP hD hS q0 4 (ap_l he) rfl hin hd (fun H1 locs1 hP hD hS => by
    rw [set_l he, hw] at hP hD
    exact kk _ rfl H1 locs1 ls hP hD hS hl)
/-- an object of the world or of the pool comes into a row of references -/
theorem a_astW (C : Cok X cc nL own rm Fz) {a N v : Nat} {f : Nat → Option Nat} {i : Int32} {vs : List Value} (ws' : (Nat → Option Nat) → va_W) (hd : decode cc pc = .ok (.aastore, 1)) (q0 : Nat) (he : ws[q0]? = some (a, aW (cxG X) N f)) (hv : (v, ob 10 vs) ∈ ws ++ pl) (hin : vp_in i N) (hw : ∀ h, ws.set q0 (a, aW (cxG X) N h) = ws' h) (kk : ∀ h, h = va_up f i.toNatClampNeg (some v) → AW X nL k n (ws' h) pl (pc + 1) lo st) : AW X nL k n ws pl pc lo (.ref v :: .int i :: .ref a :: st) := by
  obtain ⟨p, l, e, R, s, m, args, below, meth, c, g, A, Q⟩ := X
  obtain ⟨hx, hb, hml, hown, hts, hK, hA, hR, hF⟩ := C
  subst hR
  intro H locs ls hP hD hS hl
  obtain ⟨qk, hqk⟩ := List.getElem?_of_mem hv
  exact va_astq hx hb hK hP hD hS q0 4 qk 10 (ap_l he) rfl hqk rfl hin hd (fun H1 locs1 hP hD hS => by
    rw [set_l he, hw] at hP hD
    exact kk _ rfl H1 locs1 ls hP hD hS hl)
theorem a_astWO (C : Cok X cc nL own rm Fz) {a N : Nat} {r : Option Nat} {f : Nat → Option Nat} {i : Int32} (ws' : (Nat → Option Nat) → va_W) (hd : decode cc pc = .ok (.aastore, 1)) (q0 : Nat) (he : ws[q0]? = some (a, aW (cxG X) N f)) (hv : ∀ v, r = some v → ∃ vs, (v, ob 10 vs) ∈ pl) (hin : vp_in i N) (hw : ∀ h, ws.set q0 (a, aW (cxG X) N h) = ws' h) (kk : ∀ h, h = va_up f i.toNatClampNeg r → AW X nL k n (ws' h) pl (pc + 1) lo st) : AW X nL k n ws pl pc lo (va_rf r :: .int i :: .ref a :: st) := by
  cases r with
  | none => exact a_astWN C ws' hd q0 he hin hw kk
  | some v =>
    obtain ⟨vs, h⟩ := hv v rfl
    exact a_astW C ws' hd q0 he (List.mem_append_right _ h) hin hw kk
theorem a_astTN (C : Cok X cc nL own rm Fz) {a N : Nat} {f : Nat → Option Nat} {i : Int32} (ws' : (Nat → Option Nat) → va_W) (hd : decode cc pc = .ok (.aastore, 1)) (q0 : Nat) (he : ws[q0]? = some (a, aT (cxG X) N f)) (hin : vp_in i N) (hw : ∀ h, ws.set q0 (a, aT (cxG X) N h) = ws' h) (kk : ∀ h, h = va_up f i.toNatClampNeg none → AW X nL k n (ws' h) pl (pc + 1) lo st) : AW X nL k n ws pl pc lo (.null :: .int i :: .ref a :: st) := by
  obtain ⟨p, l, e, R, s, m, args, below, meth, c, g, A, Q⟩ := X
  obtain ⟨hx, hb, hml, hown, hts, hK, hA, hR, hF⟩ := C
  subst hR
  intro H locs ls hP hD hS hl
  exact va_astqN hx hb hK hP hD hS q0 5 (ap_l he) rfl hin hd (fun H1 locs1 hP hD hS => by
    rw [set_l he, hw] at hP hD
    exact kk _ rfl H1 locs1 ls hP hD hS hl)
/-- an object of the world or of the pool comes into a row of references -/
theorem a_astT (C : Cok X cc nL own rm Fz) {a N v : Nat} {f : Nat → Option Nat} {i : Int32} {vs : List Value} (ws' : (Nat → Option Nat) → va_W) (hd : decode cc pc = .ok (.aastore, 1)) (q0 : Nat) (he : ws[q0]? = some (a, aT (cxG X) N f)) (hv : (v, ob 8 vs) ∈ ws ++ pl) (hin : vp_in i N) (hw : ∀ h, ws.set q0 (a, aT (cxG X) N h) = ws' h) (kk : ∀ h, h = va_up f i.toNatClampNeg (some v) → AW X nL k n (ws' h) pl (pc + 1) lo st) : AW X nL k n ws pl pc lo (.ref v :: .int i :: .ref a :: st) := by
  obtain ⟨p, l, e, R, s, m, args, below, meth, c, g, A, Q⟩ := X
  obtain ⟨hx, hb, hml, hown, hts, hK, hA, hR, hF⟩ := C
  subst hR
  intro H locs ls hP hD hS hl
  obtain ⟨qk, hqk⟩ := List.getElem?_of_mem hv
  exact va_astq hx hb hK hP hD hS q0 5 qk 8 (ap_l he) rfl hqk rfl hin hd (fun H1 locs1 hP hD hS => by
    rw [set_l he, hw] at hP hD
    exact kk _ rfl H1 locs1 ls hP hD hS hl)
theorem a_astTO (C : Cok X cc nL own rm Fz) {a N : Nat} {r : Option Nat} {f : Nat → Option Nat} {i : Int32} (ws' : (Nat → Option Nat) → va_W) (hd : decode cc pc = .ok (.aastore, 1)) (q0 : Nat) (he : ws[q0]? = some (a, aT (cxG X) N f)) (hv : ∀ v, r = some v → ∃ vs, (v, ob 8 vs) ∈ pl) (hin : vp_in i N) (hw : ∀ h, ws.set q0 (a, aT (cxG X) N h) = ws' h) (kk : ∀ h, h = va_up f i.toNatClampNeg r → AW X nL k n (ws' h) pl (pc + 1) lo st) : AW X nL k n ws pl pc lo (va_rf r :: .int i :: .ref a :: st) := by
  cases r with
  | none => exact a_astTN C ws' hd q0 he hin hw kk
  | some v =>
    obtain ⟨vs, h⟩ := hv v rfl
    exact a_astT C ws' hd q0 he (List.mem_append_right _ h) hin hw kk
theorem a_topo {r : Option Nat} (kk : ∀ y : Option Nat, y = r → AW X nL k n ws pl pc lo (va_rf y :: st)) : AW X nL k n ws pl pc lo (va_rf r :: st) := kk r rfl
theorem pool_rec {isC : List Nat} {b ci : Nat} {fs : List Value} (h : (b, ob ci fs) ∈ pl) : ∃ (i : Nat) (fs : List Value), (pick ws isC ++ pl)[i]? = some (b, .inr (ci, fs)) := by
  obtain ⟨i, hi⟩ := List.getElem?_of_mem (List.mem_append_right (pick ws isC) h)
  exact ⟨i, fs, hi⟩
/-- an element of a row that stays: a static field, an index, the load -/
theorem a_stat (C : Cok X cc nL own rm Fz) {idx i : Nat} {j : Fin 4} {nm : String} {f : Nat → Int32} {x : Int32} (hFs : ∀ A U, Fz A U → FzS nm f A U) (hlk : Cond.fieldLink own idx "ShadySide" nm "[I" ∈ tb) (hd : decode cc pc = .ok (.getstatic idx, 3)) (hd1 : decode cc (pc + 3) = .ok (.iload_n j, 1)) (hi : (j : Nat) = i) (hv : lo[i]? = some (some (.int x))) (hd2 : decode cc (pc + 3 + 1) = .ok (.iaload, 1)) (hin : vp_in x 8) (kk : AW X nL k n ws pl (pc + 3 + 1 + 1) lo (.int (f x.toNatClampNeg) :: st)) : AW X nL k n ws pl pc lo st := by
  obtain ⟨p, l, e, R, s, m, args, below, meth, c, g, A, Q⟩ := X
  obtain ⟨hx, hb, hml, hown, hts, hK, hA, hR, hF⟩ := C
  subst hR
  intro H locs ls hP hD hS hl
  obtain ⟨t, z1, z2⟩ := hFs A s hF
  refine va_gets hx hb z1 hS hown (hts _ hlk) (fun _ h => h) hd ?_
  refine lv_iload_n hx hb hd1 hi (hl.2.2 i _ hv) ?_
  exact va_ti hx hb z2 hS hin rfl hd2 (kk H locs ls hP hD hS hl)
theorem a_ldcS {ka : KA} (C : Cok X cc nL own rm (FzC ka)) {i : Nat} (ho : own = "ShadySide$Reader") (hd : decode cc pc = .ok (.ldc i, 2)) (j : Nat) (hi : (i = 243 ∧ j = 0) ∨ (i = 227 ∧ j = 1)) (kk : AW X nL k n ws pl (pc + 2) lo (.ref (ka.1 j) :: st)) : AW X nL k n ws pl pc lo st := by
  subst ho
  obtain ⟨p, l, e, R, s, m, args, below, meth, c, g, A, Q⟩ := X
  obtain ⟨hx, hb, hml, hown, hts, hK, hA, hR, hF⟩ := C
  subst hR
  intro H locs ls hP hD hS hl
  obtain ⟨-, -, -, ⟨-, k2, k3⟩, -⟩ := hF
  rcases hi with ⟨rfl, rfl⟩ | ⟨rfl, rfl⟩
  · exact va_ldcS hx hb hown k2 hd (kk H locs ls hP hD hS hl)
  · exact va_ldcS hx hb hown k3 hd (kk H locs ls hP hD hS hl)
theorem a_kval {ka : KA} (C : Cok X cc nL own rm (FzC ka)) {idx i : Nat} (hlk : Cond.fieldLink own idx "java/lang/String" "value" "[B" ∈ tb) (hi : i < 2) (hd : decode cc pc = .ok (.getfield idx, 3)) (kk : AW X nL k n ws pl (pc + 3) lo (.ref (ka.2 i) :: st)) : AW X nL k n ws pl pc lo (.ref (ka.1 i) :: st) := by
  obtain ⟨p, l, e, R, s, m, args, below, meth, c, g, A, Q⟩ := X
  obtain ⟨hx, hb, hml, hown, hts, hK, hA, hR, hF⟩ := C
  subst hR
  intro H locs ls hP hD hS hl
  exact vk_getf hx hb (hF.2.2.2.1.1.1 i hi).2.2.1 hS hown (hts _ hlk) (fun _ h => h) hd (kk H locs ls hP hD hS hl)
theorem a_kcod {ka : KA} (C : Cok X cc nL own rm (FzC ka)) {idx i : Nat} (hlk : Cond.fieldLink own idx "java/lang/String" "coder" "B" ∈ tb) (hi : i < 2) (hd : decode cc pc = .ok (.getfield idx, 3)) (kk : AW X nL k n ws pl (pc + 3) lo (.int 0 :: st)) : AW X nL k n ws pl pc lo (.ref (ka.1 i) :: st) := by
  obtain ⟨p, l, e, R, s, m, args, below, meth, c, g, A, Q⟩ := X
  obtain ⟨hx, hb, hml, hown, hts, hK, hA, hR, hF⟩ := C
  subst hR
  intro H locs ls hP hD hS hl
  exact vk_getf hx hb (hF.2.2.2.1.1.1 i hi).2.1 hS hown (hts _ hlk) (fun _ h => h) hd (kk H locs ls hP hD hS hl)
theorem a_klen {ka : KA} (C : Cok X cc nL own rm (FzC ka)) {i : Nat} (hi : i < 2) (hd : decode cc pc = .ok (.arraylength, 1)) (kk : AW X nL k n ws pl (pc + 1) lo (.int (nI (kLen.getD i 0)) :: st)) : AW X nL k n ws pl pc lo (.ref (ka.2 i) :: st) := by
  obtain ⟨p, l, e, R, s, m, args, below, meth, c, g, A, Q⟩ := X
  obtain ⟨hx, hb, hml, hown, hts, hK, hA, hR, hF⟩ := C
  subst hR
  intro H locs ls hP hD hS hl
  exact va_tlen hx hb (hF.2.2.2.1.1.1 i hi).2.2.2 hS rfl hd (kk H locs ls hP hD hS hl)
theorem a_kbal {ka : KA} (C : Cok X cc nL own rm (FzC ka)) {i : Nat} {x : Int32} (hi : i < 2) (hd : decode cc pc = .ok (.baload, 1)) (hin : vp_in x (kLen.getD i 0)) (kk : AW X nL k n ws pl (pc + 1) lo (.int ((kByt.getD i []).getD x.toNatClampNeg 0) :: st)) : AW X nL k n ws pl pc lo (.int x :: .ref (ka.2 i) :: st) := by
  obtain ⟨p, l, e, R, s, m, args, below, meth, c, g, A, Q⟩ := X
  obtain ⟨hx, hb, hml, hown, hts, hK, hA, hR, hF⟩ := C
  subst hR
  intro H locs ls hP hD hS hl
  exact va_tb hx hb (hF.2.2.2.1.1.1 i hi).2.2.2 hS hin rfl hd (kk H locs ls hP hD hS hl)
theorem a_cst {ka : KA} (C : Cok X cc nL own rm (FzC ka)) {idx : Nat} (hlk : Cond.fieldLink own idx "java/lang/String" "COMPACT_STRINGS" "Z" ∈ tb) (hd : decode cc pc = .ok (.getstatic idx, 3)) (kk : AW X nL k n ws pl (pc + 3) lo (.int 1 :: st)) : AW X nL k n ws pl pc lo st := by
  obtain ⟨p, l, e, R, s, m, args, below, meth, c, g, A, Q⟩ := X
  obtain ⟨hx, hb, hml, hown, hts, hK, hA, hR, hF⟩ := C
  subst hR
  intro H locs ls hP hD hS hl
  exact va_gets hx hb hF.2.2.2.2.1 hS hown (hts _ hlk) (fun _ h => h) hd (kk H locs ls hP hD hS hl)
theorem a_fmt {ka : KA} (C : Cok X cc nL own rm (FzC ka)) {idx : Nat} (hlk : Cond.fieldLink own idx "jdk/internal/util/Preconditions" "SIOOBE_FORMATTER" "Ljava/util/function/BiFunction;" ∈ tb) (hd : decode cc pc = .ok (.getstatic idx, 3)) (kk : ∀ r : Option Nat, AW X nL k n ws pl (pc + 3) lo (va_rf r :: st)) : AW X nL k n ws pl pc lo st := by
  obtain ⟨p, l, e, R, s, m, args, below, meth, c, g, A, Q⟩ := X
  obtain ⟨hx, hb, hml, hown, hts, hK, hA, hR, hF⟩ := C
  subst hR
  intro H locs ls hP hD hS hl
  rcases hF.2.2.2.2.2 with z | ⟨t, z⟩
  · exact va_gets hx hb z hS hown (hts _ hlk) (fun _ h => h) hd (kk none H locs ls hP hD hS hl)
  · exact va_gets hx hb z hS hown (hts _ hlk) (fun _ h => h) hd (kk (some t) H locs ls hP hD hS hl)
end AE
theorem nl_X11_9 {ka : KA} : ∀ (A : Nat → Prop) (U : State), FzC ka A U → va_Nw (.methodLinkNest RX11 9 yX8_init "ShadySide") U := fun A U h => h.1 (RX11, 9, yX8_init, "ShadySide") (List.mem_of_getElem? (i := 0) rfl)
theorem nl_X1_100 {ka : KA} : ∀ (A : Nat → Prop) (U : State), FzC ka A U → va_Nw (.methodLinkNest RX1 100 yX11_isSquare "ShadySide") U := fun A U h => h.1 (RX1, 100, yX11_isSquare, "ShadySide") (List.mem_of_getElem? (i := 1) rfl)
theorem nl_X3_87 {ka : KA} : ∀ (A : Nat → Prop) (U : State), FzC ka A U → va_Nw (.methodLinkNest RX3 87 yX11_row "ShadySide") U := fun A U h => h.1 (RX3, 87, yX11_row, "ShadySide") (List.mem_of_getElem? (i := 2) rfl)
theorem nl_X4_31 {ka : KA} : ∀ (A : Nat → Prop) (U : State), FzC ka A U → va_Nw (.methodLinkNest RX4 31 yX2_init "ShadySide") U := fun A U h => h.1 (RX4, 31, yX2_init, "ShadySide") (List.mem_of_getElem? (i := 3) rfl)
theorem nl_X4_146 {ka : KA} : ∀ (A : Nat → Prop) (U : State), FzC ka A U → va_Nw (.methodLinkNest RX4 146 yX11_row "ShadySide") U := fun A U h => h.1 (RX4, 146, yX11_row, "ShadySide") (List.mem_of_getElem? (i := 4) rfl)
theorem nl_X4_186 {ka : KA} : ∀ (A : Nat → Prop) (U : State), FzC ka A U → va_Nw (.methodLinkNest RX4 186 yX10_init "ShadySide") U := fun A U h => h.1 (RX4, 186, yX10_init, "ShadySide") (List.mem_of_getElem? (i := 5) rfl)
theorem nl_X6_81 {ka : KA} : ∀ (A : Nat → Prop) (U : State), FzC ka A U → va_Nw (.methodLinkNest RX6 81 yX11_away "ShadySide") U := fun A U h => h.1 (RX6, 81, yX11_away, "ShadySide") (List.mem_of_getElem? (i := 6) rfl)
theorem nl_X6_107 {ka : KA} : ∀ (A : Nat → Prop) (U : State), FzC ka A U → va_Nw (.methodLinkNest RX6 107 yX11_isTime "ShadySide") U := fun A U h => h.1 (RX6, 107, yX11_isTime, "ShadySide") (List.mem_of_getElem? (i := 7) rfl)
theorem nl_X6_111 {ka : KA} : ∀ (A : Nat → Prop) (U : State), FzC ka A U → va_Nw (.methodLinkNest RX6 111 yX11_row "ShadySide") U := fun A U h => h.1 (RX6, 111, yX11_row, "ShadySide") (List.mem_of_getElem? (i := 8) rfl)
theorem nl_X6_132 {ka : KA} : ∀ (A : Nat → Prop) (U : State), FzC ka A U → va_Nw (.methodLinkNest RX6 132 yX11_isSquare "ShadySide") U := fun A U h => h.1 (RX6, 132, yX11_isSquare, "ShadySide") (List.mem_of_getElem? (i := 9) rfl)
theorem nl_X7_27 {ka : KA} : ∀ (A : Nat → Prop) (U : State), FzC ka A U → va_Nw (.methodLinkNest RX7 27 yX11_away "ShadySide") U := fun A U h => h.1 (RX7, 27, yX11_away, "ShadySide") (List.mem_of_getElem? (i := 10) rfl)
theorem nl_X8_94 {ka : KA} : ∀ (A : Nat → Prop) (U : State), FzC ka A U → va_Nw (.methodLinkNest RX8 94 yX11_isSquare "ShadySide") U := fun A U h => h.1 (RX8, 94, yX11_isSquare, "ShadySide") (List.mem_of_getElem? (i := 11) rfl)
theorem nl_X9_42 {ka : KA} : ∀ (A : Nat → Prop) (U : State), FzC ka A U → va_Nw (.methodLinkNest RX9 42 yX10_init "ShadySide") U := fun A U h => h.1 (RX9, 42, yX10_init, "ShadySide") (List.mem_of_getElem? (i := 12) rfl)
theorem nl_X9_76 {ka : KA} : ∀ (A : Nat → Prop) (U : State), FzC ka A U → va_Nw (.methodLinkNest RX9 76 yX11_row "ShadySide") U := fun A U h => h.1 (RX9, 76, yX11_row, "ShadySide") (List.mem_of_getElem? (i := 13) rfl)
theorem nl_X9_206 {ka : KA} : ∀ (A : Nat → Prop) (U : State), FzC ka A U → va_Nw (.methodLinkNest RX9 206 yX11_isMinute "ShadySide") U := fun A U h => h.1 (RX9, 206, yX11_isMinute, "ShadySide") (List.mem_of_getElem? (i := 14) rfl)
theorem nl_X9_209 {ka : KA} : ∀ (A : Nat → Prop) (U : State), FzC ka A U → va_Nw (.methodLinkNest RX9 209 yX11_isSquare "ShadySide") U := fun A U h => h.1 (RX9, 209, yX11_isSquare, "ShadySide") (List.mem_of_getElem? (i := 15) rfl)
theorem nl_X9_251 {ka : KA} : ∀ (A : Nat → Prop) (U : State), FzC ka A U → va_Nw (.methodLinkNest RX9 251 yX11_away "ShadySide") U := fun A U h => h.1 (RX9, 251, yX11_away, "ShadySide") (List.mem_of_getElem? (i := 16) rfl)
section AK
variable {X : Ctx} {cc : ByteArray} {nL k n : Nat} {own : String} {rm : Room} {Fz : (Nat → Prop) → State → Prop} {ws : va_W} {pl : Pool} {lo : List (Option Value)} {st : List Value} {pc : Nat}
variable {y : MethodName} {cy : ByteArray} {ny nA idx mc ms : Nat} {ry : Option FieldType} {rmy : Room} {Fz' : (Nat → Prop) → State → Prop} {As : List Value} {S : Type} {Wf : S → va_W} {Pf : S → Pool} {ws' : S → va_W} {st0 : List Value} {b : Nat}

theorem a_callKi {ka : KA} {ki : Nat} (C : Cok X cc nL own rm (FzC ka)) (hki : ki < 2) (hyc : y.cls = "java/lang/String") {wc : va_W} {post : Int32 → S → Prop} (hM : MI (cxL X) y cy ny ry rmy (cxG X) Fz' (.ref (ka.1 ki) :: As) wc pl post Wf Pf mc ms) (hd : decode cc pc = .ok (.invokevirtual idx, 3)) (hm : MthV y cy ny ry nA) (hlk : Cond.methodLink own idx y ∈ tb) (hFz : ∀ A U, FzC ka A U → Fz' A U) (hFo : FzOk Fz') (hrm : RmOk rmy rm ny mc ms k n) (hst : (st.map fun v => v.category).sum ≤ 8) (hlen : As.length = nA) (hs : As.reverse ++ .ref (ka.1 ki) :: st = st0) (isC isR isF : List Nat) (hC : pick ws isC = wc) (hBC : inB ws isC = true) (hBR : inB ws isR = true) (hnC : va_nd isC = true) (hnR : va_nd isR = true) (hdis : dsj isR isC = true) (hBF : ∀ u, inB (pick ws isR ++ Wf u) isF = true) (hnF : va_nd isF = true) (hW : ∀ u, pick (pick ws isR ++ Wf u) isF = ws' u) (kk : ∀ (r : Int32) (u : S), post r u → AW X nL (k + mc) (n + ms) (ws' u) (Pf u) (pc + 3) lo (.int r :: st)) : AW X nL k n ws pl pc lo st0 := by
  obtain ⟨p, l, e, R, s, m, args, below, meth, c, g, A, Q⟩ := X
  obtain ⟨hx, hb, hml, hown, hts, hK, hA, hR, hF⟩ := C
  subst hR
  intro H locs ls hP hD hS hl
  subst hC
  subst hs
  obtain ⟨r1, r2, r3, r4, r5, r6⟩ := hrm
  have hFr := fr_pick hD hS hA isC hBC hnC
  have hU := pre_of (.ref (ka.1 ki) :: As) hK hP hD hS hA hF hFz hFo isC hBC hnC
  obtain ⟨m1, m2, m3, m4, m5, m6, m7⟩ := hm
  have hrv : ∃ cell : Cell, H[ka.1 ki]? = some cell ∧ cell.vm.isStatics = false ∧ s.vm.findClass y.cls = some cell.cls := by
    rw [hyc]
    exact vk_recv hF.2.2.2.1.1 hki hS
  have cb := callB_of (Ts := tb) (R := R) nA hts (gd_tb (fun _ h => h) m4) rfl r1 r2 (hts _ m3) (hts _ hlk) ⟨m5, m6, m7⟩ ⟨r3, r4⟩
  have hr := va_runV (l := l) (e := e) (below := below) (meth := meth) (locs := locs) (cells := k) (slots := n) (g := F0 m pc ls (As.reverse ++ .ref (ka.1 ki) :: st)) (As := As) (rest := st) ⟨hx, hb, hml, hown, hts⟩ (hM H.size) ⟨cb, hts _ m1, hts _ m2⟩ ⟨gPc_blind hFo, hrv, hU⟩ rfl hlen hl.1 rfl (lv_room hst) hd ⟨r5, r6⟩
  refine va_calli hr hS (fun q _ h => hFr q h) hFr (fun r u t H1 locs1 ht hvm hw hB hz hk hS' => ?_)
  obtain ⟨hP1, hD1⟩ := hB
  rw [ht] at hP1
  obtain ⟨hP2, hD2⟩ := va_joinP hP hD isC isR (pick_map hBC) (pick_map hBR) hnR (dsj_ok hdis) hk hFr hP1 hD1
  have hP3 := wP_pick hP2 isF
  have hD3 := wD_pick hD2 isF (hBF u) hnF
  rw [hW u] at hP3 hD3
  exact kk r u hw H1 locs1 ls hP3 hD3 hS' hl
end AK
theorem met_b {l : Launch} {y : MethodName} {cc : ByteArray} {nL : Nat} {rm : Room} {g : GG} {Fz : (Nat → Prop) → State → Prop} {av : List Value} {wc : va_W} {pl : Pool} {S : Type} {post : Int32 → S → Prop} {Wf : S → va_W} {Pf : S → Pool} {mc ms : Nat} {own : String} (hy : plainName y.cls = true) (ho : y.cls = own) (hlen : (lg_sl av).length ≤ nL)
    (body : ∀ X : Ctx, cxG X = g → cxL X = l → Cok X cc nL own rm Fz → (y.name = "<init>" → Cini X) → (∀ (r : Int32) (u : S) (pc : Nat) (lo : List (Option Value)), narrow .byte (.int r) = .int r → post r u → decode cc pc = .ok (.ireturn, 1) → AW X nL mc ms (Wf u) (Pf u) pc lo [.int r]) → AW X nL 0 0 wc pl 0 (loP nL av) []) : MI l y cc nL (some .byte) rm g Fz av wc pl (fun r u => narrow .byte (.int r) = .int r ∧ post r u) Wf Pf mc ms := by
  intro sz
  refine Met.ofW (cc := cc) (maxL := nL) (ret := some .byte) hy rfl ?_
  intro p e s m args below meth c s₁ B hml hv
  obtain ⟨rfl, hsz, hP, hK, hD0, hF⟩ := hv
  subst hsz
  have hts := atoms_spec (ws := gw y cc nL (some .byte)) B.pre
  have hown : s.vm.findClass own = some m.cls := ho ▸ findClass_of_methodNamed B.named
  have hD := hD0.self (sz := s.heap.size)
  have hin : y.name = "<init>" → meth.name = "<init>" := fun h => by rw [(name_of_methodNamed B.named B.method).1, h]
  have key := body (p, l, e, rm, s, m, av.toArray, below, meth, c, g, va_A (wc ++ pl) s.heap.size, MQ below (va_Qi (fun r u => narrow .byte (.int r) = .int r ∧ post r u) (gB g wc pl s.heap.size Wf Pf) (va_A (wc ++ pl) s.heap.size)) av.toArray s mc ms (va_A (wc ++ pl) s.heap.size)) rfl rfl ⟨B.exec, B.bytes, hml, hown, fun w hw => hts w (List.mem_cons_of_mem _ hw), hK, fun q h => Or.inr h, rfl, hF⟩ hin (fun r u pc lo hn hp hd => by
    intro H locs ls hP hD hS hl
    exact W.zret B.exec B.bytes B.returns hn (fun t ht hW => ⟨⟨r, u, rfl, ⟨hn, hp⟩, by rw [ht]; exact hP, hD⟩, hS.F ht⟩) hS.2.2 hd B.notSynchronized)
  rw [lg_entry_eq]
  exact key s.heap [] _ hP hD va_S.rf (loP_has (lv_entry av hlen))

