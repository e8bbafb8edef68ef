/-! A TRY: the call that may throw, caught -/
theorem vx_catch {p : Program} {l : Launch} {e : Env} {R : Room} {s : State} {m : MethodId} {args : Array Value} {below : List Frame} {meth : Method} {c : Code} {H : Heap} {locs : List Loc} {cells slots : Nat} {Q : State → Prop} {pc : Nat} {ls : Array Slot} {rest : List Value} {own name : String} {E : String} {ce : Cell} {q : Addr} (hown : s.vm.findClass own = some m.cls) (pre : List ExceptionTableEntry) (x : ExceptionTableEntry) (suf : List ExceptionTableEntry) (hsplit : c.exceptionTable.toList = pre ++ x :: suf)
    (hpass : ∀ z ∈ pre, covers z pc = false ∨ (z.catchType ≠ 0 ∧ ∃ nm : String, (Cond.classLink own z.catchType nm).before args s = true ∧ va_Nc E nm s)) (hx : covers x pc = true) (h0 : x.catchType ≠ 0)
    (hlink : (Cond.classLink own x.catchType name).before args s = true) (hcast : (Cond.castable E name).before args s = true) (hcell : H[q]? = some ce) (hv : ce.vm = .none) (hcl : s.vm.findClass E = some ce.cls)
    (kk : W p l e R s m args below meth c H locs cells slots Q (F0 m x.handlerPc ls [.ref q])) : vx_W p l e R s m args below meth c H locs cells slots Q (F0 m pc ls rest) q := by
  intro T hT X
  have hpl : e.platform.magicAccessors = ({} : Platform).magicAccessors := by rw [X.admits.platform]
  obtain ⟨c3, c4, hc3, hc4, hasg⟩ := Cond.castable_spec hcast
  cases Option.some.inj (hc3.symm.trans hcl)
  obtain ⟨c5, hc5, hcl5⟩ := Cond.classLink_spec hown hlink e.platform hpl
  cases Option.some.inj (hc4.symm.trans hc5)
  obtain ⟨vm', X', st⟩ := Stand.thenCaughtThrough X q (g := F0 m pc ls rest) rfl (Steps.refl _) (by rw [hT]; exact hcell) (by rw [hv]; rfl) (by obtain ⟨k9, h9, -⟩ := Vm.findClass_spec hcl; exact ⟨k9, h9⟩) pre x suf hsplit
    (fun z hz => by
      rcases hpass z hz with h | ⟨hz0, nm, hl1, hn1⟩
      · exact Or.inl h
      · obtain ⟨c6, hc6, hcl6⟩ := Cond.classLink_spec hown hl1 e.platform hpl
        obtain ⟨a8, b8, h1, h2, h3⟩ := hn1
        cases Option.some.inj (h1.symm.trans hcl)
        cases Option.some.inj (h2.symm.trans hc6)
        exact Or.inr ⟨hz0, _, hcl6, h3⟩) hx (Or.inr ⟨h0, c4, hcl5, hasg⟩)
  obtain ⟨t, a1, b1⟩ := kk (T.setVm vm') hT X'
  exact ⟨t, st.trans a1, b1⟩
def Ctb (X : Ctx) (hh : List (Nat × Nat × Nat × Nat)) : Prop := match X with
  | (_, _, _, _, _, _, _, _, _, c, _, _, _) => c.exceptionTable.toList = tableOf hh
theorem all_pool {is : List Nat} {D : va_G} {H : Heap} {ws : va_W} {pl : Pool} (h : va_P D vwCl (ws ++ pl) H) : va_P D vwCl (ws ++ pl) H := h
def gwW (y : MethodName) (cc : ByteArray) (n : Nat) (ret : Option FieldType) (hh : List (Nat × Nat × Nat × Nat)) : List Cond := .codeWith y cc n ret hh :: tb
theorem gd_tbW {Ts : List Cond} (hT : ∀ w ∈ tb, w ∈ Ts) {y : MethodName} {cc : ByteArray} {n : Nat} {ret : Option FieldType} {hh : List (Nat × Nat × Nat × Nat)} (hc : Cond.codeWith y cc n ret hh ∈ tb) : GoodIn Ts (gwW y cc n ret hh) := by
  intro w hw
  rcases List.mem_cons.mp hw with rfl | h
  · exact ⟨hT _ hc, tb_ok hc⟩
  · exact ⟨hT _ h, tb_ok h⟩
def MIW (l : Launch) (y : MethodName) (cc : ByteArray) (nL : Nat) (ret : Option FieldType) (hh : List (Nat × Nat × Nat × Nat)) (rm : Room) (g : GG) (Fz : (Nat → Prop) → State → Prop) (av : List Value) (wc : va_W) (pl : Pool) {S : Type} (post : Int32 → S → Prop) (Wf : S → va_W) (Pf : S → Pool) (mc ms : Nat) : Prop := ∀ sz : Nat, Met l y (gwW y cc nL ret hh) rm (gPc g av wc pl sz Fz) (va_Qi post (gB g wc pl sz Wf Pf) (va_A (wc ++ pl) sz)) mc ms (va_A (wc ++ pl) sz)
def MthW (y : MethodName) (cy : ByteArray) (ny : Nat) (ry : Option FieldType) (hh : List (Nat × Nat × Nat × Nat)) (nA : Nat) : Prop := Cond.static y ∈ tb ∧ Cond.initialized y.cls ∈ tb ∧ Cond.codeWith y cy ny ry hh ∈ tb ∧ y.cls ≠ "java/lang/invoke/MethodHandle" ∧ y.cls ≠ "java/lang/invoke/VarHandle" ∧ (parseMethodDescriptor y.desc).map (fun d => d.parameters.length) = some nA
section TR
variable {X : Ctx} {cc : ByteArray} {nL k n : Nat} {own : String} {rm : Room} {Fz : (Nat → Prop) → State → Prop} {ws : va_W} {pl : Pool} {lo : List (Option Value)} {st : List Value} {pc : Nat}
variable {y : MethodName} {cy : ByteArray} {ny nA idx mc ms : Nat} {ry : Option FieldType} {rmy : Room} {Fz' : (Nat → Prop) → State → Prop} {As : List Value} {S : Type} {Wf : S → va_W} {Pf : S → Pool} {st0 : List Value} {b : Nat}
theorem fr_all {A : Nat → Prop} {s : State} {H : Heap} {locs : List Loc} (hD : va_D A (ws ++ pl)) (hS : va_S A s.heap H locs) (hA : ∀ q : Nat, s.heap.size ≤ q → A q) : ∀ q, va_A (ws ++ pl) H.size q → A q := by
  intro q h
  rcases h with ⟨i, e, h⟩ | h
  · exact hD.2 i (q, e) h
  · exact hA q (Nat.le_trans hS.1 h)
theorem pre_all {g : GG} {A : Nat → Prop} {s : State} {H : Heap} {locs : List Loc} (av : List Value) (hK : va_K g.1 vwCl (tyL g.2) s) (hP : va_P g.1 vwCl (ws ++ pl) H) (hD : va_D A (ws ++ pl)) (hS : va_S A s.heap H locs) (hA : ∀ q : Nat, s.heap.size ≤ q → A q) (hF : Fz A s) (hFz : ∀ A U, Fz A U → Fz' A U) (hFo : FzOk Fz') (U : State) (hU : U.heap = H) (hW : s.WarmedH U.vm) : gPc g av ws pl H.size Fz' av.toArray U :=
  ⟨rfl, by rw [hU], by rw [hU]; exact hP, va_K.moved hW.alike hK, hD.weaken (fun _ _ _ _ => trivial), hFo A _ s U (Or.inr hW) (fr_all hD hS hA) (fun q h1 h2 => by rw [hU]; exact hS.2.1 q h1 h2) (hFz A s hF)⟩
theorem a_tryi (C : Cok X cc nL own rm Fz) {hh : List (Nat × Nat × Nat × Nat)} (hT : Ctb X hh) {post : Option Int32 → S → Prop} (hM : MXi (cxL X) y cy ny rmy (cxG X) Fz' (.ref b :: As) ws pl post Wf) (hd : decode cc pc = .ok (.invokevirtual idx, 3)) (hm : MthV y cy ny (some .int) nA) (hlk : Cond.methodLink own idx y ∈ tb) (hFz : ∀ A U, Fz A U → Fz' A U) (hFo : FzOk Fz') (hrm : RmOk rmy rm ny 1 6 k n) (hst : (st.map fun v => v.category).sum ≤ 8) (hlen : As.length = nA) (hs : As.reverse ++ .ref b :: st = st0) {ci : Nat} {T : u_T} {N : Nat} (hci : vwCl[ci]? = some (y.cls, T, N)) (hrec : ∃ (i : Nat) (fs : List Value), ws[i]? = some (b, .inr (ci, fs)))
    {a e h t : Nat} (hhh : hh = [(a, e, h, t)]) (hcov : covers ⟨a, e, h, t⟩ pc = true) (ht0 : t ≠ 0) (hcl : Cond.classLink own t nse ∈ tb) (hca : ∀ A U, Fz A U → va_Nw (.castable nse nse) U)
    (kk : ∀ (r : Int32) (u : S), post (some r) u → AW X nL (k + 1) (n + 6) (Wf u) pl (pc + 3) lo (.int r :: st)) (kx : ∀ (q : Nat) (u : S), post none u → AW X nL (k + 1) (n + 6) (Wf u) pl h lo [.ref q]) : AW X nL k n ws pl pc lo st0 := by
  obtain ⟨p, l, e', R, s, m, args, below, meth, c, g, A, Q⟩ := X
  obtain ⟨hx, hb, hml, hown, hts, hK, hA, hR, hF⟩ := C
  subst hR
  intro H locs ls hP hD hS hl
  subst hs
  obtain ⟨r1, r2, r3, r4, r5, r6⟩ := hrm
  have hFr := fr_all hD hS hA
  have hU := pre_all (.ref b :: As) hK hP hD hS hA hF hFz hFo
  obtain ⟨m1, m2, m3, m4, m5, m6, m7⟩ := hm
  obtain ⟨i0, fs0, h0⟩ := hrec
  have hrv := va_recv hK hP hci (ap_l h0)
  have cb := callB_of (Ts := tb) (R := R) nA hts (gd_tb (fun _ h => h) m4) rfl r1 r2 (hts _ m3) (hts _ hlk) ⟨m5, m6, m7⟩ ⟨r3, r4⟩
  have hr := vx_runV (l := l) (e := e') (below := below) (meth := meth) (locs := locs) (cells := k) (slots := n) (g := F0 m pc ls (As.reverse ++ .ref b :: st)) (As := As) (rest := st) ⟨hx, hb, hml, hown, hts⟩ (hM H.size) ⟨cb, hts _ m1, hts _ m2⟩ ⟨gPc_blind hFo, hrv, hU⟩ rfl hlen hl.1 rfl (lv_room hst) hd ⟨r5, r6⟩
  have jn : ∀ (u : S) (H1 : Heap) (t : State), t.heap = H1 → gB g ws pl H.size Wf (fun _ => pl) u t → va_P g.1 vwCl (Wf u ++ pl) H1 ∧ va_D A (Wf u ++ pl) := fun u H1 t ht hB => ⟨by rw [← ht]; exact hB.1, hB.2.weaken (fun k q hk hq => hFr _ hq)⟩
  refine vx_calli hr hS (fun q _ h => hFr q h) hFr (fun q _ h => hFr q h) (fun E ce q9 u t H1 locs1 ht hvm hw hB hz hk hS' hce hcv hcl9 => ?_) (fun r u t H1 locs1 ht hvm hw hB hz hk hS' => ?_)
  · obtain ⟨rfl, hB⟩ := hB
    obtain ⟨hP1, hD1⟩ := jn u H1 t ht hB
    exact vx_catch hown [] ⟨a, e, _, _⟩ [] (by rw [show c.exceptionTable.toList = tableOf hh from hT, hhh]; rfl) (fun z hz => nomatch hz) hcov ht0 (hts _ hcl) (va_Nw.use rfl (hca A s hF)) hce hcv hcl9 (kx q9 u hw H1 locs1 ls hP1 hD1 hS' hl)
  · obtain ⟨hP1, hD1⟩ := jn u H1 t ht hB
    exact kk r u hw H1 locs1 ls hP1 hD1 hS' hl
theorem a_tryl (C : Cok X cc nL own rm Fz) {hh : List (Nat × Nat × Nat × Nat)} (hT : Ctb X hh) {post : Option Int64 → S → Prop} (hM : MXl (cxL X) y cy ny rmy (cxG X) Fz' (.ref b :: As) ws pl post Wf) (hd : decode cc pc = .ok (.invokevirtual idx, 3)) (hm : MthV y cy ny (some .long) nA) (hlk : Cond.methodLink own idx y ∈ tb) (hFz : ∀ A U, Fz A U → Fz' A U) (hFo : FzOk Fz') (hrm : RmOk rmy rm ny 1 6 k n) (hst : (st.map fun v => v.category).sum ≤ 8) (hlen : As.length = nA) (hs : As.reverse ++ .ref b :: st = st0) {ci : Nat} {T : u_T} {N : Nat} (hci : vwCl[ci]? = some (y.cls, T, N)) (hrec : ∃ (i : Nat) (fs : List Value), ws[i]? = some (b, .inr (ci, fs)))
    {a e h t : Nat} (hhh : hh = [(a, e, h, t)]) (hcov : covers ⟨a, e, h, t⟩ pc = true) (ht0 : t ≠ 0) (hcl : Cond.classLink own t nse ∈ tb) (hca : ∀ A U, Fz A U → va_Nw (.castable nse nse) U)
    (kk : ∀ (r : Int64) (u : S), post (some r) u → AW X nL (k + 1) (n + 6) (Wf u) pl (pc + 3) lo (.long r :: st)) (kx : ∀ (q : Nat) (u : S), post none u → AW X nL (k + 1) (n + 6) (Wf u) pl h lo [.ref q]) : AW X nL k n ws pl pc lo st0 := by
  obtain ⟨p, l, e', R, s, m, args, below, meth, c, g, A, Q⟩ := X
  obtain ⟨hx, hb, hml, hown, hts, hK, hA, hR, hF⟩ := C
  subst hR
  intro H locs ls hP hD hS hl
  subst hs
  obtain ⟨r1, r2, r3, r4, r5, r6⟩ := hrm
  have hFr := fr_all hD hS hA
  have hU := pre_all (.ref b :: As) hK hP hD hS hA hF hFz hFo
  obtain ⟨m1, m2, m3, m4, m5, m6, m7⟩ := hm
  obtain ⟨i0, fs0, h0⟩ := hrec
  have hrv := va_recv hK hP hci (ap_l h0)
  have cb := callB_of (Ts := tb) (R := R) nA hts (gd_tb (fun _ h => h) m4) rfl r1 r2 (hts _ m3) (hts _ hlk) ⟨m5, m6, m7⟩ ⟨r3, r4⟩
  have hr := vx_runV (l := l) (e := e') (below := below) (meth := meth) (locs := locs) (cells := k) (slots := n) (g := F0 m pc ls (As.reverse ++ .ref b :: st)) (As := As) (rest := st) ⟨hx, hb, hml, hown, hts⟩ (hM H.size) ⟨cb, hts _ m1, hts _ m2⟩ ⟨gPc_blind hFo, hrv, hU⟩ rfl hlen hl.1 rfl (lv_room hst) hd ⟨r5, r6⟩
  have jn : ∀ (u : S) (H1 : Heap) (t : State), t.heap = H1 → gB g ws pl H.size Wf (fun _ => pl) u t → va_P g.1 vwCl (Wf u ++ pl) H1 ∧ va_D A (Wf u ++ pl) := fun u H1 t ht hB => ⟨by rw [← ht]; exact hB.1, hB.2.weaken (fun k q hk hq => hFr _ hq)⟩
  refine vx_calll hr hS (fun q _ h => hFr q h) hFr (fun q _ h => hFr q h) (fun E ce q9 u t H1 locs1 ht hvm hw hB hz hk hS' hce hcv hcl9 => ?_) (fun r u t H1 locs1 ht hvm hw hB hz hk hS' => ?_)
  · obtain ⟨rfl, hB⟩ := hB
    obtain ⟨hP1, hD1⟩ := jn u H1 t ht hB
    exact vx_catch hown [] ⟨a, e, _, _⟩ [] (by rw [show c.exceptionTable.toList = tableOf hh from hT, hhh]; rfl) (fun z hz => nomatch hz) hcov ht0 (hts _ hcl) (va_Nw.use rfl (hca A s hF)) hce hcv hcl9 (kx q9 u hw H1 locs1 ls hP1 hD1 hS' hl)
  · obtain ⟨hP1, hD1⟩ := jn u H1 t ht hB
    exact kk r u hw H1 locs1 ls hP1 hD1 hS' hl
/-- the call of a helper with a table -/
theorem a_xSW (C : Cok X cc nL own rm Fz) {hh : List (Nat × Nat × Nat × Nat)} {post : Int32 → S → Prop} (hM : MIW (cxL X) y cy ny ry hh rmy (cxG X) Fz' As ws pl post Wf Pf mc ms) (hd : decode cc pc = .ok (.invokestatic idx, 3)) (hm : MthW y cy ny ry hh nA) (hlk : Cond.methodLink own idx y ∈ tb) (hFz : ∀ A U, Fz A U → Fz' A U) (hFo : FzOk Fz') (hrm : RmOk rmy rm ny mc ms k n) (hst : (st.map fun v => v.category).sum ≤ 8) (hlen : As.length = nA) (hs : As.reverse ++ st = st0) (kk : ∀ (r : Int32) (u : S), post r u → AW X nL (k + mc) (n + ms) (Wf u) (Pf u) (pc + 3) lo (.int r :: st)) : AW X nL k n ws pl pc lo st0 := by
  obtain ⟨p, l, e, R, s, m, args, below, meth, c, g, A, Q⟩ := X
  obtain ⟨hx, hb, hml, hown, hts, hK, hA, hR, hF⟩ := C
  subst hR
  intro H locs ls hP hD hS hl
  subst hs
  obtain ⟨r1, r2, r3, r4, r5, r6⟩ := hrm
  have hFr := fr_all hD hS hA
  have hU := pre_all As hK hP hD hS hA hF hFz hFo
  obtain ⟨m1, m3, m4, m5, m6, m7⟩ := hm
  have G := gd_tbW (Ts := tb) (fun _ h => h) m4
  have cw : vx_CSW R s args own idx y cy ny ry hh (gwW y cy ny ry hh) rmy mc ms nA := ⟨⟨r1, r2, r3, r4, pay_in hts G, List.mem_cons_self⟩, hts _ m4, hts _ m3, ⟨m5, m6⟩, fun sig h => by
    rw [h] at m7
    exact (Option.some.inj m7).symm, hts _ hlk, hts _ m1⟩
  have hr := vx_runSW (l := l) (e := e) (below := below) (meth := meth) (locs := locs) (cells := k) (slots := n) (g := F0 m pc ls (As.reverse ++ st)) (As := As) (rest := st) ⟨hx, hb, hml, hown, hts⟩ (hM H.size) cw ⟨gPc_blind hFo, hU⟩ rfl hlen hl.1 rfl (lv_room hst) hd ⟨r5, r6⟩
  refine va_calli hr hS (fun q _ h => hFr q h) hFr (fun r u t H1 locs1 ht hvm hw hB hz hk hS' => ?_)
  exact kk r u hw H1 locs1 ls (by rw [← ht]; exact hB.1) (hB.2.weaken (fun k q hk hq => hFr _ hq)) hS' hl
end TR
theorem met_W {l : Launch} {y : MethodName} {cc : ByteArray} {nL : Nat} {hh : List (Nat × Nat × Nat × Nat)} {rm : Room} {g : GG} {Fz : (Nat → Prop) → State → Prop} {av : List Value} {wc : va_W} {pl : Pool} {S : Type} {post : Int32 → S → Prop} {Wf : S → va_W} {Pf : S → Pool} {mc ms : Nat} {own : String} (hy : plainName y.cls = true) (ho : y.cls = own) (hlen : (lg_sl av).length ≤ nL)
    (body : ∀ X : Ctx, cxG X = g → cxL X = l → Cok X cc nL own rm Fz → Ctb X hh → (∀ (r : Int32) (u : S) (pc : Nat) (lo : List (Option Value)), post r u → decode cc pc = .ok (.ireturn, 1) → AW X nL mc ms (Wf u) (Pf u) pc lo [.int r]) → AW X nL 0 0 wc pl 0 (loP nL av) []) : MIW l y cc nL (some .int) hh rm g Fz av wc pl post Wf Pf mc ms := by
  intro sz
  refine va_MetW (cc := cc) (maxL := nL) (ret := some .int) (hh := hh) hy rfl ?_
  intro p e s m args below meth c s₁ B hml hv
  obtain ⟨rfl, hsz, hP, hK, hD0, hF⟩ := hv
  subst hsz
  have hts := atoms_spec (ws := gwW y cc nL (some .int) hh) B.pre
  have hown : s.vm.findClass own = some m.cls := ho ▸ findClass_of_methodNamed B.named
  have hD := hD0.self (sz := s.heap.size)
  have htab : c.exceptionTable.toList = tableOf hh := vx_table (x := y) B (hts _ List.mem_cons_self)
  have key := body (p, l, e, rm, s, m, av.toArray, below, meth, c, g, va_A (wc ++ pl) s.heap.size, MQ below (va_Qi post (gB g wc pl s.heap.size Wf Pf) (va_A (wc ++ pl) s.heap.size)) av.toArray s mc ms (va_A (wc ++ pl) s.heap.size)) rfl rfl ⟨B.exec, B.bytes, hml, hown, fun w hw => hts w (List.mem_cons_of_mem _ hw), hK, fun q h => Or.inr h, rfl, hF⟩ htab (fun r u pc lo hp hd => by
    intro H locs ls hP hD hS hl
    exact W.iret B.exec B.bytes B.returns (fun t ht hW => ⟨⟨r, u, rfl, hp, by rw [ht]; exact hP, hD⟩, hS.F ht⟩) hS.2.2 hd B.notSynchronized)
  rw [lg_entry_eq]
  exact key s.heap [] _ hP hD va_S.rf (loP_has (lv_entry av hlen))
