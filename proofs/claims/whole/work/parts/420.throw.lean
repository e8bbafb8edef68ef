/-! METHODS THAT THROW: contracts with two ends; an answer 'none' is the exception -/
def nse : String := "java/util/NoSuchElementException"
def nseN : List String := ["java/lang/RuntimeException", "java/lang/Exception"]
def atX : List Cond := vx_at0 RX11 179 nse nseN
def dcX : List String := ["java/lang/RuntimeException", "java/lang/Exception", Bundle.tN]
theorem atX_in : ∀ w ∈ atX, w ∈ tb ∨ w = .castable nse nse ∨ ∃ n ∈ dcX, w = .declares ⟨n, "<init>", "()V"⟩ := by decide +kernel
theorem atX_ot : ∀ w ∈ Cond.classLink RX11 177 nse :: Cond.initialized nse :: atX, vx_ot w = true := by decide +kernel
theorem t_nse1 : Cond.classLink RX11 177 nse ∈ tb := by decide +kernel
theorem t_nse2 : Cond.initialized nse ∈ tb := by decide +kernel
def FzT (A : Nat → Prop) (U : State) : Prop := (va_Nw (.castable nse nse) U ∧ ∀ n ∈ dcX, va_Nw (.declares ⟨n, "<init>", "()V"⟩) U) ∧ vx_Zq Bundle.tN "UNASSIGNED_STACK" Bundle.steD A U U.heap ∧ vx_Zq Bundle.tN "SUPPRESSED_SENTINEL" Bundle.listD A U U.heap
def FzD (ka : KA) (A : Nat → Prop) (U : State) : Prop := FzC ka A U ∧ FzT A U
theorem FzD_ok (ka : KA) : FzOk (FzD ka) := by
  intro A B s U hr hAB hk h
  obtain ⟨h1, h2, h3, h4⟩ := h
  have hal := rel_al hr
  refine ⟨FzC_ok ka A B s U hr hAB hk h1, ?_, ((h3.kept hk).narrow hAB).moved hal, ((h4.kept hk).narrow hAB).moved hal⟩
  rcases hr with e | e
  · exact ⟨va_Nw.same rfl e h2.1, fun n hn => va_Nw.same rfl e (h2.2 n hn)⟩
  · exact ⟨va_Nw.warmC e h2.1, fun n hn => va_Nw.warmD e (h2.2 n hn)⟩
def rmX (d : Nat) : Room := { frames := d, cells := 1, slots := 6, locals := 60 * d }
theorem rmlX {a b ny : Nat} (h : a < b) (hn : ny ≤ 41) : RmOk (rmL a) (rmX b) ny 0 0 0 0 := ⟨rfl, rfl, h, by show 8 + (ny + 11) + 60 * a ≤ 60 * b; omega, Nat.zero_le _, Nat.zero_le _⟩
theorem rmX16 {a b ny : Nat} (h : a < b) (hn : ny ≤ 33) : 16 + (ny + 11) + (rmL a).locals ≤ (rmX b).locals := by show 16 + (ny + 11) + 60 * a ≤ 60 * b; omega
def MXi (l : Launch) (y : MethodName) (cc : ByteArray) (nL : Nat) (rm : Room) (g : GG) (Fz : (Nat → Prop) → State → Prop) (av : List Value) (wc : va_W) (pl : Pool) {S : Type} (post : Option Int32 → S → Prop) (Wf : S → va_W) : Prop := ∀ sz : Nat, vx_Met l y (gw y cc nL (some .int)) rm (gPc g av wc pl sz Fz) (va_Qi (fun r u => post (some r) u) (gB g wc pl sz Wf (fun _ => pl)) (va_A (wc ++ pl) sz)) (vx_X (fun u => post none u) (fun E u t => E = nse ∧ gB g wc pl sz Wf (fun _ => pl) u t) (va_A (wc ++ pl) sz)) 1 6 (va_A (wc ++ pl) sz)
theorem met_xi {l : Launch} (hl0 : l.stackTraces = false) {ka : KA} {y : MethodName} {cc : ByteArray} {nL d : Nat} {g : GG} {av : List Value} {wc : va_W} {pl : Pool} {S : Type} {post : Option Int32 → S → Prop} {Wf : S → va_W} (hy : plainName y.cls = true) (ho : y.cls = RX11) (hdd : 7 ≤ d) (hlen : (lg_sl av).length ≤ nL)
    (body : ∀ X : Ctx, cxG X = g → cxL X = l → Cok X cc nL RX11 (rmX d) (FzD ka) → ((∀ (r : Int32) (u : S) (pc : Nat) (lo : List (Option Value)), post (some r) u → decode cc pc = .ok (.ireturn, 1) → AW X nL 0 0 (Wf u) pl pc lo [.int r]) ∧ (∀ (u : S) (pc : Nat) (lo : List (Option Value)), post none u → decode cc pc = .ok (.new 177, 3) → decode cc (pc + 3) = .ok (.dup, 1) → decode cc (pc + 4) = .ok (.invokespecial 179, 3) → decode cc (pc + 7) = .ok (.athrow, 1) → AW X nL 0 0 (Wf u) pl pc lo [])) → AW X nL 0 0 wc pl 0 (loP nL av) []) : MXi l y cc nL (rmX d) g (FzD ka) av wc pl post Wf := by
  intro sz
  refine vx_ofW (cc := cc) (maxL := nL) (ret := some .int) hy rfl ?_
  intro p e s m args below meth c s₁ B hml htab hv
  obtain ⟨rfl, hsz, hP, hK, hD0, hF⟩ := hv
  subst hsz
  have hts := atoms_spec (ws := gw y cc nL (some .int)) B.pre
  have htb : ∀ w ∈ tb, w.before av.toArray s = true := fun w hw => hts w (List.mem_cons_of_mem _ hw)
  have hown : s.vm.findClass RX11 = some m.cls := ho ▸ findClass_of_methodNamed B.named
  have hD := hD0.self (sz := s.heap.size)
  have hat : ∀ w ∈ vx_at0 RX11 179 nse nseN, w.before av.toArray s = true := fun w hw => by
    rcases atX_in w hw with h | h | ⟨n, hn, h⟩
    · exact htb w h
    · rw [h]
      exact va_Nw.use rfl hF.2.1.1
    · rw [h]
      exact va_Nw.use rfl (hF.2.1.2 n hn)
  have key := body (p, l, e, rmX d, s, m, av.toArray, below, meth, c, g, va_A (wc ++ pl) s.heap.size, vx_MQ below (va_Qi (fun r u => post (some r) u) (gB g wc pl s.heap.size Wf (fun _ => pl)) (va_A (wc ++ pl) s.heap.size)) (vx_X (fun u => post none u) (fun E u t => E = nse ∧ gB g wc pl s.heap.size Wf (fun _ => pl) u t) (va_A (wc ++ pl) s.heap.size)) av.toArray s 1 6 (va_A (wc ++ pl) s.heap.size)) rfl rfl ⟨B.exec, B.bytes, hml, hown, htb, hK, fun q h => Or.inr h, rfl, hF⟩ ⟨fun r u pc lo hp hd => by
      intro H locs ls hP hD hS hl
      refine W.widen (k := 1) (n := 6) (by omega) (by omega) ?_
      exact vx_ret (W.iret B.exec B.bytes B.returns (fun t ht hW => ⟨⟨r, u, rfl, hp, by rw [ht]; exact hP, hD⟩, hS.F ht⟩) hS.2.2 hd B.notSynchronized), fun u pc lo hp d0 d3 d4 d7 => by
      intro H locs ls hP hD hS hl
      refine vx_throw0 (A := va_A (wc ++ pl) s.heap.size) (names := nseN) (cls := nse) B.exec B.bytes hl0 hown (by decide +kernel) (by decide +kernel) (htb _ t_nse1) (htb _ t_nse2) hat atX_ot hF.2.2.1 hF.2.2.2 hS (hl.1.trans hml.symm) d0 d3 d4 d7 (fun x hx => (htab x hx).elim) (by show 2 + 3 < d; omega) (by show 0 + (13 * 3 + 42) ≤ 60 * d; omega) (Nat.le_refl _) (Nat.le_refl _) B.notSynchronized (fun t hvm hz hq => ?_) hS.2.2 (Nat.le_refl _) (Nat.le_refl _)
      exact ⟨u, hp, ⟨rfl, hP.kept (fun k q hk => hq q.1 (hP k q hk).lt), hD⟩, Nat.le_trans hS.1 hz, fun q h1 h2 => by rw [hq q (Nat.lt_of_lt_of_le h1 hS.1)]; exact hS.2.1 q h1 h2⟩⟩
  rw [lg_entry_eq]
  exact key s.heap [] _ hP hD va_S.rf (loP_has (lv_entry av hlen))
def MXl (l : Launch) (y : MethodName) (cc : ByteArray) (nL : Nat) (rm : Room) (g : GG) (Fz : (Nat → Prop) → State → Prop) (av : List Value) (wc : va_W) (pl : Pool) {S : Type} (post : Option Int64 → S → Prop) (Wf : S → va_W) : Prop := ∀ sz : Nat, vx_Met l y (gw y cc nL (some .long)) rm (gPc g av wc pl sz Fz) (va_Ql (fun r u => post (some r) u) (gB g wc pl sz Wf (fun _ => pl)) (va_A (wc ++ pl) sz)) (vx_X (fun u => post none u) (fun E u t => E = nse ∧ gB g wc pl sz Wf (fun _ => pl) u t) (va_A (wc ++ pl) sz)) 1 6 (va_A (wc ++ pl) sz)
theorem met_xl {l : Launch} (hl0 : l.stackTraces = false) {ka : KA} {y : MethodName} {cc : ByteArray} {nL d : Nat} {g : GG} {av : List Value} {wc : va_W} {pl : Pool} {S : Type} {post : Option Int64 → S → Prop} {Wf : S → va_W} (hy : plainName y.cls = true) (ho : y.cls = RX11) (hdd : 7 ≤ d) (hlen : (lg_sl av).length ≤ nL)
    (body : ∀ X : Ctx, cxG X = g → cxL X = l → Cok X cc nL RX11 (rmX d) (FzD ka) → ((∀ (r : Int64) (u : S) (pc : Nat) (lo : List (Option Value)), post (some r) u → decode cc pc = .ok (.lreturn, 1) → AW X nL 0 0 (Wf u) pl pc lo [.long r]) ∧ (∀ (u : S) (pc : Nat) (lo : List (Option Value)), post none u → decode cc pc = .ok (.new 177, 3) → decode cc (pc + 3) = .ok (.dup, 1) → decode cc (pc + 4) = .ok (.invokespecial 179, 3) → decode cc (pc + 7) = .ok (.athrow, 1) → AW X nL 0 0 (Wf u) pl pc lo [])) → AW X nL 0 0 wc pl 0 (loP nL av) []) : MXl l y cc nL (rmX d) g (FzD ka) av wc pl post Wf := by
  intro sz
  refine vx_ofW (cc := cc) (maxL := nL) (ret := some .long) hy rfl ?_
  intro p e s m args below meth c s₁ B hml htab hv
  obtain ⟨rfl, hsz, hP, hK, hD0, hF⟩ := hv
  subst hsz
  have hts := atoms_spec (ws := gw y cc nL (some .long)) B.pre
  have htb : ∀ w ∈ tb, w.before av.toArray s = true := fun w hw => hts w (List.mem_cons_of_mem _ hw)
  have hown : s.vm.findClass RX11 = some m.cls := ho ▸ findClass_of_methodNamed B.named
  have hD := hD0.self (sz := s.heap.size)
  have hat : ∀ w ∈ vx_at0 RX11 179 nse nseN, w.before av.toArray s = true := fun w hw => by
    rcases atX_in w hw with h | h | ⟨n, hn, h⟩
    · exact htb w h
    · rw [h]
      exact va_Nw.use rfl hF.2.1.1
    · rw [h]
      exact va_Nw.use rfl (hF.2.1.2 n hn)
  have key := body (p, l, e, rmX d, s, m, av.toArray, below, meth, c, g, va_A (wc ++ pl) s.heap.size, vx_MQ below (va_Ql (fun r u => post (some r) u) (gB g wc pl s.heap.size Wf (fun _ => pl)) (va_A (wc ++ pl) s.heap.size)) (vx_X (fun u => post none u) (fun E u t => E = nse ∧ gB g wc pl s.heap.size Wf (fun _ => pl) u t) (va_A (wc ++ pl) s.heap.size)) av.toArray s 1 6 (va_A (wc ++ pl) s.heap.size)) rfl rfl ⟨B.exec, B.bytes, hml, hown, htb, hK, fun q h => Or.inr h, rfl, hF⟩ ⟨fun r u pc lo hp hd => by
      intro H locs ls hP hD hS hl
      refine W.widen (k := 1) (n := 6) (by omega) (by omega) ?_
      exact vx_ret (W.lret B.exec B.bytes B.returns (fun t ht hW => ⟨⟨r, u, rfl, hp, by rw [ht]; exact hP, hD⟩, hS.F ht⟩) hS.2.2 hd B.notSynchronized), fun u pc lo hp d0 d3 d4 d7 => by
      intro H locs ls hP hD hS hl
      refine vx_throw0 (A := va_A (wc ++ pl) s.heap.size) (names := nseN) (cls := nse) B.exec B.bytes hl0 hown (by decide +kernel) (by decide +kernel) (htb _ t_nse1) (htb _ t_nse2) hat atX_ot hF.2.2.1 hF.2.2.2 hS (hl.1.trans hml.symm) d0 d3 d4 d7 (fun x hx => (htab x hx).elim) (by show 2 + 3 < d; omega) (by show 0 + (13 * 3 + 42) ≤ 60 * d; omega) (Nat.le_refl _) (Nat.le_refl _) B.notSynchronized (fun t hvm hz hq => ?_) hS.2.2 (Nat.le_refl _) (Nat.le_refl _)
      exact ⟨u, hp, ⟨rfl, hP.kept (fun k q hk => hq q.1 (hP k q hk).lt), hD⟩, Nat.le_trans hS.1 hz, fun q h1 h2 => by rw [hq q (Nat.lt_of_lt_of_le h1 hS.1)]; exact hS.2.1 q h1 h2⟩⟩
  rw [lg_entry_eq]
  exact key s.heap [] _ hP hD va_S.rf (loP_has (lv_entry av hlen))
