/-! CALLS AND CONTRACTS -/
def gPc (g : GG) (av : List Value) (wc : va_W) (pl : Pool) (sz : Nat) (Fz : (Nat → Prop) → State → Prop) : Array Value → State → Prop := va_Pc av (fun U => U.heap.size = sz ∧ va_P g.1 vwCl (wc ++ pl) U.heap ∧ va_K g.1 vwCl (tyL g.2) U ∧ va_D (fun _ => True) (wc ++ pl) ∧ Fz (va_A (wc ++ pl) sz) U)
def gB (g : GG) (wc : va_W) (pl : Pool) (sz : Nat) {S : Type} (Wf : S → va_W) (Pf : S → Pool) : S → State → Prop := fun u t => va_P g.1 vwCl (Wf u ++ Pf u) t.heap ∧ va_D (va_A (wc ++ pl) sz) (Wf u ++ Pf u)
def MI (l : Launch) (y : MethodName) (cc : ByteArray) (nL : Nat) (ret : Option FieldType) (rm : Room) (g : GG) (Fz : (Nat → Prop) → State → Prop) (av : List Value) (wc : va_W) (pl : Pool) {S : Type} (post : Int32 → S → Prop) (Wf : S → va_W) (Pf : S → Pool) (mc ms : Nat) : Prop := ∀ sz : Nat, Met l y (gw y cc nL ret) rm (gPc g av wc pl sz Fz) (va_Qi post (gB g wc pl sz Wf Pf) (va_A (wc ++ pl) sz)) mc ms (va_A (wc ++ pl) sz)
def ML (l : Launch) (y : MethodName) (cc : ByteArray) (nL : Nat) (ret : Option FieldType) (rm : Room) (g : GG) (Fz : (Nat → Prop) → State → Prop) (av : List Value) (wc : va_W) (pl : Pool) {S : Type} (post : Int64 → S → Prop) (Wf : S → va_W) (Pf : S → Pool) (mc ms : Nat) : Prop := ∀ sz : Nat, Met l y (gw y cc nL ret) rm (gPc g av wc pl sz Fz) (va_Ql post (gB g wc pl sz Wf Pf) (va_A (wc ++ pl) sz)) mc ms (va_A (wc ++ pl) sz)
def MV (l : Launch) (y : MethodName) (cc : ByteArray) (nL : Nat) (ret : Option FieldType) (rm : Room) (g : GG) (Fz : (Nat → Prop) → State → Prop) (av : List Value) (wc : va_W) (pl : Pool) {S : Type} (post : S → Prop) (Wf : S → va_W) (Pf : S → Pool) (mc ms : Nat) : Prop := ∀ sz : Nat, Met l y (gw y cc nL ret) rm (gPc g av wc pl sz Fz) (va_Qv post (gB g wc pl sz Wf Pf) (va_A (wc ++ pl) sz)) mc ms (va_A (wc ++ pl) sz)
def MO (l : Launch) (y : MethodName) (cc : ByteArray) (nL : Nat) (ret : Option FieldType) (rm : Room) (g : GG) (Fz : (Nat → Prop) → State → Prop) (av : List Value) (wc : va_W) (pl : Pool) {S : Type} (post : Option Nat → S → Prop) (Wf : S → va_W) (Pf : S → Pool) (mc ms : Nat) : Prop := ∀ sz : Nat, Met l y (gw y cc nL ret) rm (gPc g av wc pl sz Fz) (va_Qq post (gB g wc pl sz Wf Pf) (va_A (wc ++ pl) sz)) mc ms (va_A (wc ++ pl) sz)
theorem gPc_blind {g : GG} {av : List Value} {wc : va_W} {pl : Pool} {sz : Nat} {Fz : (Nat → Prop) → State → Prop} (hF : FzOk Fz) : FrameBlind (gPc g av wc pl sz Fz) := fun a U gg mk q => by
  obtain ⟨q0, q1, qP, qK, qD, qF⟩ := q
  exact ⟨q0, q1, qP, va_K.moved (u := U) (U := U.calling gg mk a) (Vm.Alike.refl U.vm) qK, qD, hF _ _ U _ (Or.inl rfl) (fun _ h => h) (fun _ _ _ => rfl) qF⟩
theorem fr_pick {A : Nat → Prop} {s : State} {H : Heap} {locs : List Loc} {ws : va_W} {pl : Pool} (hD : va_D A (ws ++ pl)) (hS : va_S A s.heap H locs) (hA : ∀ q : Nat, s.heap.size ≤ q → A q) (is : List Nat) (hB : inB ws is = true) (hn : va_nd is = true) : ∀ q, va_A (pick ws is ++ pl) H.size q → A q := by
  intro q h
  rcases h with ⟨i, e, h⟩ | h
  · exact (wD_pick hD is hB hn).2 i (q, e) h
  · exact hA q (Nat.le_trans hS.1 h)
theorem pre_of {g : GG} {A : Nat → Prop} {s : State} {H : Heap} {locs : List Loc} {ws : va_W} {pl : Pool} {Fz Fz' : (Nat → Prop) → State → Prop} (av : List Value) (hK : va_K g.1 vwCl (tyL g.2) s) (hP : va_P g.1 vwCl (ws ++ pl) H) (hD : va_D A (ws ++ pl)) (hS : va_S A s.heap H locs) (hA : ∀ q : Nat, s.heap.size ≤ q → A q) (hF : Fz A s) (hFz : ∀ A U, Fz A U → Fz' A U) (hFo : FzOk Fz') (is : List Nat) (hB : inB ws is = true) (hn : va_nd is = true) (U : State) (hU : U.heap = H) (hW : s.WarmedH U.vm) : gPc g av (pick ws is) pl H.size Fz' av.toArray U :=
  ⟨rfl, by rw [hU], by rw [hU]; exact wP_pick hP is, va_K.moved hW.alike hK, (wD_pick hD is hB hn).weaken (fun _ _ _ _ => trivial), hFo A _ s U (Or.inr hW) (fr_pick hD hS hA is hB hn) (fun q h1 h2 => by rw [hU]; exact hS.2.1 q h1 h2) (hFz A s hF)⟩
/-- what the tables say of a method: its code, its class, how many parameters -/
def MthV (y : MethodName) (cy : ByteArray) (ny : Nat) (ry : Option FieldType) (nA : Nat) : Prop := Cond.instanceMethod y ∈ tb ∧ Cond.selects y.cls y y ∈ tb ∧ Cond.initialized y.cls ∈ tb ∧ Cond.code y cy ny ry ∈ tb ∧ y.cls ≠ "java/lang/invoke/MethodHandle" ∧ y.cls ≠ "java/lang/invoke/VarHandle" ∧ (parseMethodDescriptor y.desc).map (fun d => d.parameters.length) = some nA
def MthS (y : MethodName) (cy : ByteArray) (ny : Nat) (ry : Option FieldType) (nA : Nat) : Prop := Cond.static y ∈ tb ∧ Cond.initialized y.cls ∈ tb ∧ Cond.code y cy ny ry ∈ tb ∧ y.cls ≠ "java/lang/invoke/MethodHandle" ∧ y.cls ≠ "java/lang/invoke/VarHandle" ∧ (parseMethodDescriptor y.desc).map (fun d => d.parameters.length) = some nA
def MthN (y : MethodName) (cy : ByteArray) (ny : Nat) (nA : Nat) : Prop := y.name = "<init>" ∧ Cond.instanceMethod y ∈ tb ∧ Cond.initialized y.cls ∈ tb ∧ Cond.code y cy ny none ∈ tb ∧ y.cls ≠ "java/lang/invoke/MethodHandle" ∧ y.cls ≠ "java/lang/invoke/VarHandle" ∧ (parseMethodDescriptor y.desc).map (fun d => d.parameters.length) = some nA
def RmOk (rmy rm : Room) (ny mc ms k n : Nat) : Prop := rmy.cells = mc ∧ rmy.slots = ms ∧ rmy.frames + 1 ≤ rm.frames ∧ 8 + (ny + 11) + rmy.locals ≤ rm.locals ∧ k + mc ≤ rm.cells ∧ n + ms ≤ rm.slots
def dsj (a b : List Nat) : Bool := a.all (fun i => !b.contains i)
theorem dsj_ok {a b : List Nat} (h : dsj a b = true) : ∀ i ∈ a, i ∉ b := fun i hi hb => by
  have h1 := List.all_eq_true.mp h i hi
  simp [hb] at h1
section AC
variable {X : Ctx} {cc : ByteArray} {nL k n : Nat} {own : String} {rm : Room} {Fz : (Nat → Prop) → State → Prop} {ws : va_W} {pl : Pool} {lo : List (Option Value)} {st : List Value} {pc : Nat}
variable {y : MethodName} {cy : ByteArray} {ny nA idx mc ms : Nat} {ry : Option FieldType} {rmy : Room} {Fz' : (Nat → Prop) → State → Prop} {As : List Value} {S : Type} {Wf : S → va_W} {Pf : S → Pool} {ws' : S → va_W} {st0 : List Value} {b : Nat}

theorem a_callVi (C : Cok X cc nL own rm Fz) {wc : va_W} {post : Int32 → S → Prop} (hM : MI (cxL X) y cy ny ry rmy (cxG X) Fz' (.ref b :: As) wc pl post Wf Pf mc ms) (hd : decode cc pc = .ok (.invokevirtual idx, 3)) (hm : MthV y cy ny ry nA) (hlk : Cond.methodLink own idx y ∈ tb) (hFz : ∀ A U, Fz A U → Fz' A U) (hFo : FzOk Fz') (hrm : RmOk rmy rm ny mc ms k n) (hst : (st.map fun v => v.category).sum ≤ 8) (hlen : As.length = nA) (hs : As.reverse ++ .ref b :: st = st0) (isC isR isF : List Nat) (hC : pick ws isC = wc) (hBC : inB ws isC = true) (hBR : inB ws isR = true) (hnC : va_nd isC = true) (hnR : va_nd isR = true) (hdis : dsj isR isC = true) {ci : Nat} {T : u_T} {N : Nat} (hci : vwCl[ci]? = some (y.cls, T, N)) (hrec : ∃ (i : Nat) (fs : List Value), (pick ws isC ++ pl)[i]? = some (b, .inr (ci, fs))) (hBF : ∀ u, inB (pick ws isR ++ Wf u) isF = true) (hnF : va_nd isF = true) (hW : ∀ u, pick (pick ws isR ++ Wf u) isF = ws' u) (kk : ∀ (r : Int32) (u : S), post r u → AW X nL (k + mc) (n + ms) (ws' u) (Pf u) (pc + 3) lo (.int r :: st)) : AW X nL k n ws pl pc lo st0 := by
  obtain ⟨p, l, e, R, s, m, args, below, meth, c, g, A, Q⟩ := X
  obtain ⟨hx, hb, hml, hown, hts, hK, hA, hR, hF⟩ := C
  subst hR
  intro H locs ls hP hD hS hl
  subst hC
  subst hs
  obtain ⟨r1, r2, r3, r4, r5, r6⟩ := hrm
  have hFr := fr_pick hD hS hA isC hBC hnC
  have hU := pre_of (.ref b :: As) hK hP hD hS hA hF hFz hFo isC hBC hnC
  obtain ⟨m1, m2, m3, m4, m5, m6, m7⟩ := hm
  obtain ⟨i0, fs0, h0⟩ := hrec
  have hrv := va_recv hK (wP_pick hP isC) hci h0
  have cb := callB_of (Ts := tb) (R := R) nA hts (gd_tb (fun _ h => h) m4) rfl r1 r2 (hts _ m3) (hts _ hlk) ⟨m5, m6, m7⟩ ⟨r3, r4⟩
  have hr := va_runV (l := l) (e := e) (below := below) (meth := meth) (locs := locs) (cells := k) (slots := n) (g := F0 m pc ls (As.reverse ++ .ref b :: st)) (As := As) (rest := st) ⟨hx, hb, hml, hown, hts⟩ (hM H.size) ⟨cb, hts _ m1, hts _ m2⟩ ⟨gPc_blind hFo, hrv, hU⟩ rfl hlen hl.1 rfl (lv_room hst) hd ⟨r5, r6⟩
  refine va_calli hr hS (fun q _ h => hFr q h) hFr (fun r u t H1 locs1 ht hvm hw hB hz hk hS' => ?_)
  obtain ⟨hP1, hD1⟩ := hB
  rw [ht] at hP1
  obtain ⟨hP2, hD2⟩ := va_joinP hP hD isC isR (pick_map hBC) (pick_map hBR) hnR (dsj_ok hdis) hk hFr hP1 hD1
  have hP3 := wP_pick hP2 isF
  have hD3 := wD_pick hD2 isF (hBF u) hnF
  rw [hW u] at hP3 hD3
  exact kk r u hw H1 locs1 ls hP3 hD3 hS' hl
theorem a_callSi (C : Cok X cc nL own rm Fz) {wc : va_W} {post : Int32 → S → Prop} (hM : MI (cxL X) y cy ny ry rmy (cxG X) Fz' As wc pl post Wf Pf mc ms) (hd : decode cc pc = .ok (.invokestatic idx, 3)) (hm : MthS y cy ny ry nA) (hlk : Cond.methodLink own idx y ∈ tb) (hFz : ∀ A U, Fz A U → Fz' A U) (hFo : FzOk Fz') (hrm : RmOk rmy rm ny mc ms k n) (hst : (st.map fun v => v.category).sum ≤ 8) (hlen : As.length = nA) (hs : As.reverse ++ st = st0) (isC isR isF : List Nat) (hC : pick ws isC = wc) (hBC : inB ws isC = true) (hBR : inB ws isR = true) (hnC : va_nd isC = true) (hnR : va_nd isR = true) (hdis : dsj isR isC = true) (hBF : ∀ u, inB (pick ws isR ++ Wf u) isF = true) (hnF : va_nd isF = true) (hW : ∀ u, pick (pick ws isR ++ Wf u) isF = ws' u) (kk : ∀ (r : Int32) (u : S), post r u → AW X nL (k + mc) (n + ms) (ws' u) (Pf u) (pc + 3) lo (.int r :: st)) : AW X nL k n ws pl pc lo st0 := by
  obtain ⟨p, l, e, R, s, m, args, below, meth, c, g, A, Q⟩ := X
  obtain ⟨hx, hb, hml, hown, hts, hK, hA, hR, hF⟩ := C
  subst hR
  intro H locs ls hP hD hS hl
  subst hC
  subst hs
  obtain ⟨r1, r2, r3, r4, r5, r6⟩ := hrm
  have hFr := fr_pick hD hS hA isC hBC hnC
  have hU := pre_of As hK hP hD hS hA hF hFz hFo isC hBC hnC
  obtain ⟨m1, m3, m4, m5, m6, m7⟩ := hm
  have cb := callB_of (Ts := tb) (R := R) nA hts (gd_tb (fun _ h => h) m4) rfl r1 r2 (hts _ m3) (hts _ hlk) ⟨m5, m6, m7⟩ ⟨r3, r4⟩
  have hr := va_runS (l := l) (e := e) (below := below) (meth := meth) (locs := locs) (cells := k) (slots := n) (g := F0 m pc ls (As.reverse ++ st)) (As := As) (rest := st) ⟨hx, hb, hml, hown, hts⟩ (hM H.size) ⟨cb, hts _ m1⟩ ⟨gPc_blind hFo, hU⟩ rfl hlen hl.1 rfl (lv_room hst) hd ⟨r5, r6⟩
  refine va_calli hr hS (fun q _ h => hFr q h) hFr (fun r u t H1 locs1 ht hvm hw hB hz hk hS' => ?_)
  obtain ⟨hP1, hD1⟩ := hB
  rw [ht] at hP1
  obtain ⟨hP2, hD2⟩ := va_joinP hP hD isC isR (pick_map hBC) (pick_map hBR) hnR (dsj_ok hdis) hk hFr hP1 hD1
  have hP3 := wP_pick hP2 isF
  have hD3 := wD_pick hD2 isF (hBF u) hnF
  rw [hW u] at hP3 hD3
  exact kk r u hw H1 locs1 ls hP3 hD3 hS' hl
theorem a_callSNi (C : Cok X cc nL own rm Fz) {wc : va_W} {post : Int32 → S → Prop} (hM : MI (cxL X) y cy ny ry rmy (cxG X) Fz' As wc pl post Wf Pf mc ms) (hd : decode cc pc = .ok (.invokestatic idx, 3)) (hm : MthS y cy ny ry nA) {host : String} (hlk : ∀ A U, Fz A U → va_Nw (.methodLinkNest own idx y host) U) (hFz : ∀ A U, Fz A U → Fz' A U) (hFo : FzOk Fz') (hrm : RmOk rmy rm ny mc ms k n) (hst : (st.map fun v => v.category).sum ≤ 8) (hlen : As.length = nA) (hs : As.reverse ++ st = st0) (isC isR isF : List Nat) (hC : pick ws isC = wc) (hBC : inB ws isC = true) (hBR : inB ws isR = true) (hnC : va_nd isC = true) (hnR : va_nd isR = true) (hdis : dsj isR isC = true) (hBF : ∀ u, inB (pick ws isR ++ Wf u) isF = true) (hnF : va_nd isF = true) (hW : ∀ u, pick (pick ws isR ++ Wf u) isF = ws' u) (kk : ∀ (r : Int32) (u : S), post r u → AW X nL (k + mc) (n + ms) (ws' u) (Pf u) (pc + 3) lo (.int r :: st)) : AW X nL k n ws pl pc lo st0 := by
  obtain ⟨p, l, e, R, s, m, args, below, meth, c, g, A, Q⟩ := X
  obtain ⟨hx, hb, hml, hown, hts, hK, hA, hR, hF⟩ := C
  subst hR
  intro H locs ls hP hD hS hl
  subst hC
  subst hs
  obtain ⟨r1, r2, r3, r4, r5, r6⟩ := hrm
  have hFr := fr_pick hD hS hA isC hBC hnC
  have hU := pre_of As hK hP hD hS hA hF hFz hFo isC hBC hnC
  obtain ⟨m1, m3, m4, m5, m6, m7⟩ := hm
  have cb := va_cnB (Ts := tb) (R := R) nA hts (gd_tb (fun _ h => h) m4) rfl r1 r2 (hlk A s hF) (hts _ m3) ⟨m5, m6, m7⟩ ⟨r3, r4⟩
  have hr := va_runSN (l := l) (e := e) (below := below) (meth := meth) (locs := locs) (cells := k) (slots := n) (g := F0 m pc ls (As.reverse ++ st)) (As := As) (rest := st) ⟨hx, hb, hml, hown, hts⟩ (hM H.size) ⟨cb, hts _ m1, trivial⟩ ⟨gPc_blind hFo, hU⟩ rfl hlen hl.1 rfl (lv_room hst) hd ⟨r5, r6⟩
  refine va_calli hr hS (fun q _ h => hFr q h) hFr (fun r u t H1 locs1 ht hvm hw hB hz hk hS' => ?_)
  obtain ⟨hP1, hD1⟩ := hB
  rw [ht] at hP1
  obtain ⟨hP2, hD2⟩ := va_joinP hP hD isC isR (pick_map hBC) (pick_map hBR) hnR (dsj_ok hdis) hk hFr hP1 hD1
  have hP3 := wP_pick hP2 isF
  have hD3 := wD_pick hD2 isF (hBF u) hnF
  rw [hW u] at hP3 hD3
  exact kk r u hw H1 locs1 ls hP3 hD3 hS' hl
theorem a_callVl (C : Cok X cc nL own rm Fz) {wc : va_W} {post : Int64 → S → Prop} (hM : ML (cxL X) y cy ny ry rmy (cxG X) Fz' (.ref b :: As) wc pl post Wf Pf mc ms) (hd : decode cc pc = .ok (.invokevirtual idx, 3)) (hm : MthV y cy ny ry nA) (hlk : Cond.methodLink own idx y ∈ tb) (hFz : ∀ A U, Fz A U → Fz' A U) (hFo : FzOk Fz') (hrm : RmOk rmy rm ny mc ms k n) (hst : (st.map fun v => v.category).sum ≤ 8) (hlen : As.length = nA) (hs : As.reverse ++ .ref b :: st = st0) (isC isR isF : List Nat) (hC : pick ws isC = wc) (hBC : inB ws isC = true) (hBR : inB ws isR = true) (hnC : va_nd isC = true) (hnR : va_nd isR = true) (hdis : dsj isR isC = true) {ci : Nat} {T : u_T} {N : Nat} (hci : vwCl[ci]? = some (y.cls, T, N)) (hrec : ∃ (i : Nat) (fs : List Value), (pick ws isC ++ pl)[i]? = some (b, .inr (ci, fs))) (hBF : ∀ u, inB (pick ws isR ++ Wf u) isF = true) (hnF : va_nd isF = true) (hW : ∀ u, pick (pick ws isR ++ Wf u) isF = ws' u) (kk : ∀ (r : Int64) (u : S), post r u → AW X nL (k + mc) (n + ms) (ws' u) (Pf u) (pc + 3) lo (.long r :: st)) : AW X nL k n ws pl pc lo st0 := by
  obtain ⟨p, l, e, R, s, m, args, below, meth, c, g, A, Q⟩ := X
  obtain ⟨hx, hb, hml, hown, hts, hK, hA, hR, hF⟩ := C
  subst hR
  intro H locs ls hP hD hS hl
  subst hC
  subst hs
  obtain ⟨r1, r2, r3, r4, r5, r6⟩ := hrm
  have hFr := fr_pick hD hS hA isC hBC hnC
  have hU := pre_of (.ref b :: As) hK hP hD hS hA hF hFz hFo isC hBC hnC
  obtain ⟨m1, m2, m3, m4, m5, m6, m7⟩ := hm
  obtain ⟨i0, fs0, h0⟩ := hrec
  have hrv := va_recv hK (wP_pick hP isC) hci h0
  have cb := callB_of (Ts := tb) (R := R) nA hts (gd_tb (fun _ h => h) m4) rfl r1 r2 (hts _ m3) (hts _ hlk) ⟨m5, m6, m7⟩ ⟨r3, r4⟩
  have hr := va_runV (l := l) (e := e) (below := below) (meth := meth) (locs := locs) (cells := k) (slots := n) (g := F0 m pc ls (As.reverse ++ .ref b :: st)) (As := As) (rest := st) ⟨hx, hb, hml, hown, hts⟩ (hM H.size) ⟨cb, hts _ m1, hts _ m2⟩ ⟨gPc_blind hFo, hrv, hU⟩ rfl hlen hl.1 rfl (lv_room hst) hd ⟨r5, r6⟩
  refine va_calll hr hS (fun q _ h => hFr q h) hFr (fun r u t H1 locs1 ht hvm hw hB hz hk hS' => ?_)
  obtain ⟨hP1, hD1⟩ := hB
  rw [ht] at hP1
  obtain ⟨hP2, hD2⟩ := va_joinP hP hD isC isR (pick_map hBC) (pick_map hBR) hnR (dsj_ok hdis) hk hFr hP1 hD1
  have hP3 := wP_pick hP2 isF
  have hD3 := wD_pick hD2 isF (hBF u) hnF
  rw [hW u] at hP3 hD3
  exact kk r u hw H1 locs1 ls hP3 hD3 hS' hl
theorem a_callSl (C : Cok X cc nL own rm Fz) {wc : va_W} {post : Int64 → S → Prop} (hM : ML (cxL X) y cy ny ry rmy (cxG X) Fz' As wc pl post Wf Pf mc ms) (hd : decode cc pc = .ok (.invokestatic idx, 3)) (hm : MthS y cy ny ry nA) (hlk : Cond.methodLink own idx y ∈ tb) (hFz : ∀ A U, Fz A U → Fz' A U) (hFo : FzOk Fz') (hrm : RmOk rmy rm ny mc ms k n) (hst : (st.map fun v => v.category).sum ≤ 8) (hlen : As.length = nA) (hs : As.reverse ++ st = st0) (isC isR isF : List Nat) (hC : pick ws isC = wc) (hBC : inB ws isC = true) (hBR : inB ws isR = true) (hnC : va_nd isC = true) (hnR : va_nd isR = true) (hdis : dsj isR isC = true) (hBF : ∀ u, inB (pick ws isR ++ Wf u) isF = true) (hnF : va_nd isF = true) (hW : ∀ u, pick (pick ws isR ++ Wf u) isF = ws' u) (kk : ∀ (r : Int64) (u : S), post r u → AW X nL (k + mc) (n + ms) (ws' u) (Pf u) (pc + 3) lo (.long r :: st)) : AW X nL k n ws pl pc lo st0 := by
  obtain ⟨p, l, e, R, s, m, args, below, meth, c, g, A, Q⟩ := X
  obtain ⟨hx, hb, hml, hown, hts, hK, hA, hR, hF⟩ := C
  subst hR
  intro H locs ls hP hD hS hl
  subst hC
  subst hs
  obtain ⟨r1, r2, r3, r4, r5, r6⟩ := hrm
  have hFr := fr_pick hD hS hA isC hBC hnC
  have hU := pre_of As hK hP hD hS hA hF hFz hFo isC hBC hnC
  obtain ⟨m1, m3, m4, m5, m6, m7⟩ := hm
  have cb := callB_of (Ts := tb) (R := R) nA hts (gd_tb (fun _ h => h) m4) rfl r1 r2 (hts _ m3) (hts _ hlk) ⟨m5, m6, m7⟩ ⟨r3, r4⟩
  have hr := va_runS (l := l) (e := e) (below := below) (meth := meth) (locs := locs) (cells := k) (slots := n) (g := F0 m pc ls (As.reverse ++ st)) (As := As) (rest := st) ⟨hx, hb, hml, hown, hts⟩ (hM H.size) ⟨cb, hts _ m1⟩ ⟨gPc_blind hFo, hU⟩ rfl hlen hl.1 rfl (lv_room hst) hd ⟨r5, r6⟩
  refine va_calll hr hS (fun q _ h => hFr q h) hFr (fun r u t H1 locs1 ht hvm hw hB hz hk hS' => ?_)
  obtain ⟨hP1, hD1⟩ := hB
  rw [ht] at hP1
  obtain ⟨hP2, hD2⟩ := va_joinP hP hD isC isR (pick_map hBC) (pick_map hBR) hnR (dsj_ok hdis) hk hFr hP1 hD1
  have hP3 := wP_pick hP2 isF
  have hD3 := wD_pick hD2 isF (hBF u) hnF
  rw [hW u] at hP3 hD3
  exact kk r u hw H1 locs1 ls hP3 hD3 hS' hl
theorem a_callSNl (C : Cok X cc nL own rm Fz) {wc : va_W} {post : Int64 → S → Prop} (hM : ML (cxL X) y cy ny ry rmy (cxG X) Fz' As wc pl post Wf Pf mc ms) (hd : decode cc pc = .ok (.invokestatic idx, 3)) (hm : MthS y cy ny ry nA) {host : String} (hlk : ∀ A U, Fz A U → va_Nw (.methodLinkNest own idx y host) U) (hFz : ∀ A U, Fz A U → Fz' A U) (hFo : FzOk Fz') (hrm : RmOk rmy rm ny mc ms k n) (hst : (st.map fun v => v.category).sum ≤ 8) (hlen : As.length = nA) (hs : As.reverse ++ st = st0) (isC isR isF : List Nat) (hC : pick ws isC = wc) (hBC : inB ws isC = true) (hBR : inB ws isR = true) (hnC : va_nd isC = true) (hnR : va_nd isR = true) (hdis : dsj isR isC = true) (hBF : ∀ u, inB (pick ws isR ++ Wf u) isF = true) (hnF : va_nd isF = true) (hW : ∀ u, pick (pick ws isR ++ Wf u) isF = ws' u) (kk : ∀ (r : Int64) (u : S), post r u → AW X nL (k + mc) (n + ms) (ws' u) (Pf u) (pc + 3) lo (.long r :: st)) : AW X nL k n ws pl pc lo st0 := by
  obtain ⟨p, l, e, R, s, m, args, below, meth, c, g, A, Q⟩ := X
  obtain ⟨hx, hb, hml, hown, hts, hK, hA, hR, hF⟩ := C
  subst hR
  intro H locs ls hP hD hS hl
  subst hC
  subst hs
  obtain ⟨r1, r2, r3, r4, r5, r6⟩ := hrm
  have hFr := fr_pick hD hS hA isC hBC hnC
  have hU := pre_of As hK hP hD hS hA hF hFz hFo isC hBC hnC
  obtain ⟨m1, m3, m4, m5, m6, m7⟩ := hm
  have cb := va_cnB (Ts := tb) (R := R) nA hts (gd_tb (fun _ h => h) m4) rfl r1 r2 (hlk A s hF) (hts _ m3) ⟨m5, m6, m7⟩ ⟨r3, r4⟩
  have hr := va_runSN (l := l) (e := e) (below := below) (meth := meth) (locs := locs) (cells := k) (slots := n) (g := F0 m pc ls (As.reverse ++ st)) (As := As) (rest := st) ⟨hx, hb, hml, hown, hts⟩ (hM H.size) ⟨cb, hts _ m1, trivial⟩ ⟨gPc_blind hFo, hU⟩ rfl hlen hl.1 rfl (lv_room hst) hd ⟨r5, r6⟩
  refine va_calll hr hS (fun q _ h => hFr q h) hFr (fun r u t H1 locs1 ht hvm hw hB hz hk hS' => ?_)
  obtain ⟨hP1, hD1⟩ := hB
  rw [ht] at hP1
  obtain ⟨hP2, hD2⟩ := va_joinP hP hD isC isR (pick_map hBC) (pick_map hBR) hnR (dsj_ok hdis) hk hFr hP1 hD1
  have hP3 := wP_pick hP2 isF
  have hD3 := wD_pick hD2 isF (hBF u) hnF
  rw [hW u] at hP3 hD3
  exact kk r u hw H1 locs1 ls hP3 hD3 hS' hl
theorem a_callVv (C : Cok X cc nL own rm Fz) {wc : va_W} {post : S → Prop} (hM : MV (cxL X) y cy ny ry rmy (cxG X) Fz' (.ref b :: As) wc pl post Wf Pf mc ms) (hd : decode cc pc = .ok (.invokevirtual idx, 3)) (hm : MthV y cy ny ry nA) (hlk : Cond.methodLink own idx y ∈ tb) (hFz : ∀ A U, Fz A U → Fz' A U) (hFo : FzOk Fz') (hrm : RmOk rmy rm ny mc ms k n) (hst : (st.map fun v => v.category).sum ≤ 8) (hlen : As.length = nA) (hs : As.reverse ++ .ref b :: st = st0) (isC isR isF : List Nat) (hC : pick ws isC = wc) (hBC : inB ws isC = true) (hBR : inB ws isR = true) (hnC : va_nd isC = true) (hnR : va_nd isR = true) (hdis : dsj isR isC = true) {ci : Nat} {T : u_T} {N : Nat} (hci : vwCl[ci]? = some (y.cls, T, N)) (hrec : ∃ (i : Nat) (fs : List Value), (pick ws isC ++ pl)[i]? = some (b, .inr (ci, fs))) (hBF : ∀ u, inB (pick ws isR ++ Wf u) isF = true) (hnF : va_nd isF = true) (hW : ∀ u, pick (pick ws isR ++ Wf u) isF = ws' u) (kk : ∀ (u : S), post u → AW X nL (k + mc) (n + ms) (ws' u) (Pf u) (pc + 3) lo (st)) : AW X nL k n ws pl pc lo st0 := by
  obtain ⟨p, l, e, R, s, m, args, below, meth, c, g, A, Q⟩ := X
  obtain ⟨hx, hb, hml, hown, hts, hK, hA, hR, hF⟩ := C
  subst hR
  intro H locs ls hP hD hS hl
  subst hC
  subst hs
  obtain ⟨r1, r2, r3, r4, r5, r6⟩ := hrm
  have hFr := fr_pick hD hS hA isC hBC hnC
  have hU := pre_of (.ref b :: As) hK hP hD hS hA hF hFz hFo isC hBC hnC
  obtain ⟨m1, m2, m3, m4, m5, m6, m7⟩ := hm
  obtain ⟨i0, fs0, h0⟩ := hrec
  have hrv := va_recv hK (wP_pick hP isC) hci h0
  have cb := callB_of (Ts := tb) (R := R) nA hts (gd_tb (fun _ h => h) m4) rfl r1 r2 (hts _ m3) (hts _ hlk) ⟨m5, m6, m7⟩ ⟨r3, r4⟩
  have hr := va_runV (l := l) (e := e) (below := below) (meth := meth) (locs := locs) (cells := k) (slots := n) (g := F0 m pc ls (As.reverse ++ .ref b :: st)) (As := As) (rest := st) ⟨hx, hb, hml, hown, hts⟩ (hM H.size) ⟨cb, hts _ m1, hts _ m2⟩ ⟨gPc_blind hFo, hrv, hU⟩ rfl hlen hl.1 rfl (lv_room hst) hd ⟨r5, r6⟩
  refine va_callv hr hS (fun q _ h => hFr q h) hFr (fun u t H1 locs1 ht hvm hw hB hz hk hS' => ?_)
  obtain ⟨hP1, hD1⟩ := hB
  rw [ht] at hP1
  obtain ⟨hP2, hD2⟩ := va_joinP hP hD isC isR (pick_map hBC) (pick_map hBR) hnR (dsj_ok hdis) hk hFr hP1 hD1
  have hP3 := wP_pick hP2 isF
  have hD3 := wD_pick hD2 isF (hBF u) hnF
  rw [hW u] at hP3 hD3
  exact kk u hw H1 locs1 ls hP3 hD3 hS' hl
theorem a_callSv (C : Cok X cc nL own rm Fz) {wc : va_W} {post : S → Prop} (hM : MV (cxL X) y cy ny ry rmy (cxG X) Fz' As wc pl post Wf Pf mc ms) (hd : decode cc pc = .ok (.invokestatic idx, 3)) (hm : MthS y cy ny ry nA) (hlk : Cond.methodLink own idx y ∈ tb) (hFz : ∀ A U, Fz A U → Fz' A U) (hFo : FzOk Fz') (hrm : RmOk rmy rm ny mc ms k n) (hst : (st.map fun v => v.category).sum ≤ 8) (hlen : As.length = nA) (hs : As.reverse ++ st = st0) (isC isR isF : List Nat) (hC : pick ws isC = wc) (hBC : inB ws isC = true) (hBR : inB ws isR = true) (hnC : va_nd isC = true) (hnR : va_nd isR = true) (hdis : dsj isR isC = true) (hBF : ∀ u, inB (pick ws isR ++ Wf u) isF = true) (hnF : va_nd isF = true) (hW : ∀ u, pick (pick ws isR ++ Wf u) isF = ws' u) (kk : ∀ (u : S), post u → AW X nL (k + mc) (n + ms) (ws' u) (Pf u) (pc + 3) lo (st)) : AW X nL k n ws pl pc lo st0 := by
  obtain ⟨p, l, e, R, s, m, args, below, meth, c, g, A, Q⟩ := X
  obtain ⟨hx, hb, hml, hown, hts, hK, hA, hR, hF⟩ := C
  subst hR
  intro H locs ls hP hD hS hl
  subst hC
  subst hs
  obtain ⟨r1, r2, r3, r4, r5, r6⟩ := hrm
  have hFr := fr_pick hD hS hA isC hBC hnC
  have hU := pre_of As hK hP hD hS hA hF hFz hFo isC hBC hnC
  obtain ⟨m1, m3, m4, m5, m6, m7⟩ := hm
  have cb := callB_of (Ts := tb) (R := R) nA hts (gd_tb (fun _ h => h) m4) rfl r1 r2 (hts _ m3) (hts _ hlk) ⟨m5, m6, m7⟩ ⟨r3, r4⟩
  have hr := va_runS (l := l) (e := e) (below := below) (meth := meth) (locs := locs) (cells := k) (slots := n) (g := F0 m pc ls (As.reverse ++ st)) (As := As) (rest := st) ⟨hx, hb, hml, hown, hts⟩ (hM H.size) ⟨cb, hts _ m1⟩ ⟨gPc_blind hFo, hU⟩ rfl hlen hl.1 rfl (lv_room hst) hd ⟨r5, r6⟩
  refine va_callv hr hS (fun q _ h => hFr q h) hFr (fun u t H1 locs1 ht hvm hw hB hz hk hS' => ?_)
  obtain ⟨hP1, hD1⟩ := hB
  rw [ht] at hP1
  obtain ⟨hP2, hD2⟩ := va_joinP hP hD isC isR (pick_map hBC) (pick_map hBR) hnR (dsj_ok hdis) hk hFr hP1 hD1
  have hP3 := wP_pick hP2 isF
  have hD3 := wD_pick hD2 isF (hBF u) hnF
  rw [hW u] at hP3 hD3
  exact kk u hw H1 locs1 ls hP3 hD3 hS' hl
theorem a_callSNv (C : Cok X cc nL own rm Fz) {wc : va_W} {post : S → Prop} (hM : MV (cxL X) y cy ny ry rmy (cxG X) Fz' As wc pl post Wf Pf mc ms) (hd : decode cc pc = .ok (.invokestatic idx, 3)) (hm : MthS y cy ny ry nA) {host : String} (hlk : ∀ A U, Fz A U → va_Nw (.methodLinkNest own idx y host) U) (hFz : ∀ A U, Fz A U → Fz' A U) (hFo : FzOk Fz') (hrm : RmOk rmy rm ny mc ms k n) (hst : (st.map fun v => v.category).sum ≤ 8) (hlen : As.length = nA) (hs : As.reverse ++ st = st0) (isC isR isF : List Nat) (hC : pick ws isC = wc) (hBC : inB ws isC = true) (hBR : inB ws isR = true) (hnC : va_nd isC = true) (hnR : va_nd isR = true) (hdis : dsj isR isC = true) (hBF : ∀ u, inB (pick ws isR ++ Wf u) isF = true) (hnF : va_nd isF = true) (hW : ∀ u, pick (pick ws isR ++ Wf u) isF = ws' u) (kk : ∀ (u : S), post u → AW X nL (k + mc) (n + ms) (ws' u) (Pf u) (pc + 3) lo (st)) : AW X nL k n ws pl pc lo st0 := by
  obtain ⟨p, l, e, R, s, m, args, below, meth, c, g, A, Q⟩ := X
  obtain ⟨hx, hb, hml, hown, hts, hK, hA, hR, hF⟩ := C
  subst hR
  intro H locs ls hP hD hS hl
  subst hC
  subst hs
  obtain ⟨r1, r2, r3, r4, r5, r6⟩ := hrm
  have hFr := fr_pick hD hS hA isC hBC hnC
  have hU := pre_of As hK hP hD hS hA hF hFz hFo isC hBC hnC
  obtain ⟨m1, m3, m4, m5, m6, m7⟩ := hm
  have cb := va_cnB (Ts := tb) (R := R) nA hts (gd_tb (fun _ h => h) m4) rfl r1 r2 (hlk A s hF) (hts _ m3) ⟨m5, m6, m7⟩ ⟨r3, r4⟩
  have hr := va_runSN (l := l) (e := e) (below := below) (meth := meth) (locs := locs) (cells := k) (slots := n) (g := F0 m pc ls (As.reverse ++ st)) (As := As) (rest := st) ⟨hx, hb, hml, hown, hts⟩ (hM H.size) ⟨cb, hts _ m1, trivial⟩ ⟨gPc_blind hFo, hU⟩ rfl hlen hl.1 rfl (lv_room hst) hd ⟨r5, r6⟩
  refine va_callv hr hS (fun q _ h => hFr q h) hFr (fun u t H1 locs1 ht hvm hw hB hz hk hS' => ?_)
  obtain ⟨hP1, hD1⟩ := hB
  rw [ht] at hP1
  obtain ⟨hP2, hD2⟩ := va_joinP hP hD isC isR (pick_map hBC) (pick_map hBR) hnR (dsj_ok hdis) hk hFr hP1 hD1
  have hP3 := wP_pick hP2 isF
  have hD3 := wD_pick hD2 isF (hBF u) hnF
  rw [hW u] at hP3 hD3
  exact kk u hw H1 locs1 ls hP3 hD3 hS' hl
theorem a_callIv (C : Cok X cc nL own rm Fz) {wc : va_W} {post : S → Prop} (hM : MV (cxL X) y cy ny none rmy (cxG X) Fz' (.ref b :: As) wc pl post Wf Pf mc ms) (hd : decode cc pc = .ok (.invokespecial idx, 3)) (hm : MthN y cy ny nA) (hlk : Cond.methodLink own idx y ∈ tb) (hFz : ∀ A U, Fz A U → Fz' A U) (hFo : FzOk Fz') (hrm : RmOk rmy rm ny mc ms k n) (hst : (st.map fun v => v.category).sum ≤ 8) (hlen : As.length = nA) (hs : As.reverse ++ .ref b :: st = st0) (isC isR isF : List Nat) (hC : pick ws isC = wc) (hBC : inB ws isC = true) (hBR : inB ws isR = true) (hnC : va_nd isC = true) (hnR : va_nd isR = true) (hdis : dsj isR isC = true) (hBF : ∀ u, inB (pick ws isR ++ Wf u) isF = true) (hnF : va_nd isF = true) (hW : ∀ u, pick (pick ws isR ++ Wf u) isF = ws' u) (kk : ∀ (u : S), post u → AW X nL (k + mc) (n + ms) (ws' u) (Pf u) (pc + 3) lo (st)) : AW X nL k n ws pl pc lo st0 := by
  obtain ⟨p, l, e, R, s, m, args, below, meth, c, g, A, Q⟩ := X
  obtain ⟨hx, hb, hml, hown, hts, hK, hA, hR, hF⟩ := C
  subst hR
  intro H locs ls hP hD hS hl
  subst hC
  subst hs
  obtain ⟨r1, r2, r3, r4, r5, r6⟩ := hrm
  have hFr := fr_pick hD hS hA isC hBC hnC
  have hU := pre_of (.ref b :: As) hK hP hD hS hA hF hFz hFo isC hBC hnC
  obtain ⟨m0, m1, m3, m4, m5, m6, m7⟩ := hm
  have cb := callB_of (Ts := tb) (R := R) nA hts (gd_tb (fun _ h => h) m4) rfl r1 r2 (hts _ m3) (hts _ hlk) ⟨m5, m6, m7⟩ ⟨r3, r4⟩
  have hr := va_runI (l := l) (e := e) (below := below) (meth := meth) (locs := locs) (cells := k) (slots := n) (g := F0 m pc ls (As.reverse ++ .ref b :: st)) (As := As) (rest := st) ⟨hx, hb, hml, hown, hts⟩ (hM H.size) ⟨cb, m0, hts _ m1⟩ ⟨gPc_blind hFo, hU⟩ rfl hlen hl.1 rfl (lv_room hst) hd ⟨r5, r6⟩
  refine va_callv hr hS (fun q _ h => hFr q h) hFr (fun u t H1 locs1 ht hvm hw hB hz hk hS' => ?_)
  obtain ⟨hP1, hD1⟩ := hB
  rw [ht] at hP1
  obtain ⟨hP2, hD2⟩ := va_joinP hP hD isC isR (pick_map hBC) (pick_map hBR) hnR (dsj_ok hdis) hk hFr hP1 hD1
  have hP3 := wP_pick hP2 isF
  have hD3 := wD_pick hD2 isF (hBF u) hnF
  rw [hW u] at hP3 hD3
  exact kk u hw H1 locs1 ls hP3 hD3 hS' hl
theorem a_callINv (C : Cok X cc nL own rm Fz) {wc : va_W} {post : S → Prop} (hM : MV (cxL X) y cy ny none rmy (cxG X) Fz' (.ref b :: As) wc pl post Wf Pf mc ms) (hd : decode cc pc = .ok (.invokespecial idx, 3)) (hm : MthN y cy ny nA) {host : String} (hlk : ∀ A U, Fz A U → va_Nw (.methodLinkNest own idx y host) U) (hFz : ∀ A U, Fz A U → Fz' A U) (hFo : FzOk Fz') (hrm : RmOk rmy rm ny mc ms k n) (hst : (st.map fun v => v.category).sum ≤ 8) (hlen : As.length = nA) (hs : As.reverse ++ .ref b :: st = st0) (isC isR isF : List Nat) (hC : pick ws isC = wc) (hBC : inB ws isC = true) (hBR : inB ws isR = true) (hnC : va_nd isC = true) (hnR : va_nd isR = true) (hdis : dsj isR isC = true) (hBF : ∀ u, inB (pick ws isR ++ Wf u) isF = true) (hnF : va_nd isF = true) (hW : ∀ u, pick (pick ws isR ++ Wf u) isF = ws' u) (kk : ∀ (u : S), post u → AW X nL (k + mc) (n + ms) (ws' u) (Pf u) (pc + 3) lo (st)) : AW X nL k n ws pl pc lo st0 := by
  obtain ⟨p, l, e, R, s, m, args, below, meth, c, g, A, Q⟩ := X
  obtain ⟨hx, hb, hml, hown, hts, hK, hA, hR, hF⟩ := C
  subst hR
  intro H locs ls hP hD hS hl
  subst hC
  subst hs
  obtain ⟨r1, r2, r3, r4, r5, r6⟩ := hrm
  have hFr := fr_pick hD hS hA isC hBC hnC
  have hU := pre_of (.ref b :: As) hK hP hD hS hA hF hFz hFo isC hBC hnC
  obtain ⟨m0, m1, m3, m4, m5, m6, m7⟩ := hm
  have cb := va_cnB (Ts := tb) (R := R) nA hts (gd_tb (fun _ h => h) m4) rfl r1 r2 (hlk A s hF) (hts _ m3) ⟨m5, m6, m7⟩ ⟨r3, r4⟩
  have hr := va_runIN (l := l) (e := e) (below := below) (meth := meth) (locs := locs) (cells := k) (slots := n) (g := F0 m pc ls (As.reverse ++ .ref b :: st)) (As := As) (rest := st) ⟨hx, hb, hml, hown, hts⟩ (hM H.size) ⟨cb, m0, hts _ m1⟩ ⟨gPc_blind hFo, hU⟩ rfl hlen hl.1 rfl (lv_room hst) hd ⟨r5, r6⟩
  refine va_callv hr hS (fun q _ h => hFr q h) hFr (fun u t H1 locs1 ht hvm hw hB hz hk hS' => ?_)
  obtain ⟨hP1, hD1⟩ := hB
  rw [ht] at hP1
  obtain ⟨hP2, hD2⟩ := va_joinP hP hD isC isR (pick_map hBC) (pick_map hBR) hnR (dsj_ok hdis) hk hFr hP1 hD1
  have hP3 := wP_pick hP2 isF
  have hD3 := wD_pick hD2 isF (hBF u) hnF
  rw [hW u] at hP3 hD3
  exact kk u hw H1 locs1 ls hP3 hD3 hS' hl
theorem a_callVo (C : Cok X cc nL own rm Fz) {wc : va_W} {post : Option Nat → S → Prop} (hM : MO (cxL X) y cy ny ry rmy (cxG X) Fz' (.ref b :: As) wc pl post Wf Pf mc ms) (hd : decode cc pc = .ok (.invokevirtual idx, 3)) (hm : MthV y cy ny ry nA) (hlk : Cond.methodLink own idx y ∈ tb) (hFz : ∀ A U, Fz A U → Fz' A U) (hFo : FzOk Fz') (hrm : RmOk rmy rm ny mc ms k n) (hst : (st.map fun v => v.category).sum ≤ 8) (hlen : As.length = nA) (hs : As.reverse ++ .ref b :: st = st0) (isC isR isF : List Nat) (hC : pick ws isC = wc) (hBC : inB ws isC = true) (hBR : inB ws isR = true) (hnC : va_nd isC = true) (hnR : va_nd isR = true) (hdis : dsj isR isC = true) {ci : Nat} {T : u_T} {N : Nat} (hci : vwCl[ci]? = some (y.cls, T, N)) (hrec : ∃ (i : Nat) (fs : List Value), (pick ws isC ++ pl)[i]? = some (b, .inr (ci, fs))) (hBF : ∀ u, inB (pick ws isR ++ Wf u) isF = true) (hnF : va_nd isF = true) (hW : ∀ u, pick (pick ws isR ++ Wf u) isF = ws' u) (kk : ∀ (r : Option Nat) (u : S), post r u → AW X nL (k + mc) (n + ms) (ws' u) (Pf u) (pc + 3) lo (va_rf r :: st)) : AW X nL k n ws pl pc lo st0 := by
  obtain ⟨p, l, e, R, s, m, args, below, meth, c, g, A, Q⟩ := X
  obtain ⟨hx, hb, hml, hown, hts, hK, hA, hR, hF⟩ := C
  subst hR
  intro H locs ls hP hD hS hl
  subst hC
  subst hs
  obtain ⟨r1, r2, r3, r4, r5, r6⟩ := hrm
  have hFr := fr_pick hD hS hA isC hBC hnC
  have hU := pre_of (.ref b :: As) hK hP hD hS hA hF hFz hFo isC hBC hnC
  obtain ⟨m1, m2, m3, m4, m5, m6, m7⟩ := hm
  obtain ⟨i0, fs0, h0⟩ := hrec
  have hrv := va_recv hK (wP_pick hP isC) hci h0
  have cb := callB_of (Ts := tb) (R := R) nA hts (gd_tb (fun _ h => h) m4) rfl r1 r2 (hts _ m3) (hts _ hlk) ⟨m5, m6, m7⟩ ⟨r3, r4⟩
  have hr := va_runV (l := l) (e := e) (below := below) (meth := meth) (locs := locs) (cells := k) (slots := n) (g := F0 m pc ls (As.reverse ++ .ref b :: st)) (As := As) (rest := st) ⟨hx, hb, hml, hown, hts⟩ (hM H.size) ⟨cb, hts _ m1, hts _ m2⟩ ⟨gPc_blind hFo, hrv, hU⟩ rfl hlen hl.1 rfl (lv_room hst) hd ⟨r5, r6⟩
  refine va_callq hr hS (fun q _ h => hFr q h) hFr (fun r u t H1 locs1 ht hvm hw hB hz hk hS' => ?_)
  obtain ⟨hP1, hD1⟩ := hB
  rw [ht] at hP1
  obtain ⟨hP2, hD2⟩ := va_joinP hP hD isC isR (pick_map hBC) (pick_map hBR) hnR (dsj_ok hdis) hk hFr hP1 hD1
  have hP3 := wP_pick hP2 isF
  have hD3 := wD_pick hD2 isF (hBF u) hnF
  rw [hW u] at hP3 hD3
  exact kk r u hw H1 locs1 ls hP3 hD3 hS' hl
theorem a_callSo (C : Cok X cc nL own rm Fz) {wc : va_W} {post : Option Nat → S → Prop} (hM : MO (cxL X) y cy ny ry rmy (cxG X) Fz' As wc pl post Wf Pf mc ms) (hd : decode cc pc = .ok (.invokestatic idx, 3)) (hm : MthS y cy ny ry nA) (hlk : Cond.methodLink own idx y ∈ tb) (hFz : ∀ A U, Fz A U → Fz' A U) (hFo : FzOk Fz') (hrm : RmOk rmy rm ny mc ms k n) (hst : (st.map fun v => v.category).sum ≤ 8) (hlen : As.length = nA) (hs : As.reverse ++ st = st0) (isC isR isF : List Nat) (hC : pick ws isC = wc) (hBC : inB ws isC = true) (hBR : inB ws isR = true) (hnC : va_nd isC = true) (hnR : va_nd isR = true) (hdis : dsj isR isC = true) (hBF : ∀ u, inB (pick ws isR ++ Wf u) isF = true) (hnF : va_nd isF = true) (hW : ∀ u, pick (pick ws isR ++ Wf u) isF = ws' u) (kk : ∀ (r : Option Nat) (u : S), post r u → AW X nL (k + mc) (n + ms) (ws' u) (Pf u) (pc + 3) lo (va_rf r :: st)) : AW X nL k n ws pl pc lo st0 := by
  obtain ⟨p, l, e, R, s, m, args, below, meth, c, g, A, Q⟩ := X
  obtain ⟨hx, hb, hml, hown, hts, hK, hA, hR, hF⟩ := C
  subst hR
  intro H locs ls hP hD hS hl
  subst hC
  subst hs
  obtain ⟨r1, r2, r3, r4, r5, r6⟩ := hrm
  have hFr := fr_pick hD hS hA isC hBC hnC
  have hU := pre_of As hK hP hD hS hA hF hFz hFo isC hBC hnC
  obtain ⟨m1, m3, m4, m5, m6, m7⟩ := hm
  have cb := callB_of (Ts := tb) (R := R) nA hts (gd_tb (fun _ h => h) m4) rfl r1 r2 (hts _ m3) (hts _ hlk) ⟨m5, m6, m7⟩ ⟨r3, r4⟩
  have hr := va_runS (l := l) (e := e) (below := below) (meth := meth) (locs := locs) (cells := k) (slots := n) (g := F0 m pc ls (As.reverse ++ st)) (As := As) (rest := st) ⟨hx, hb, hml, hown, hts⟩ (hM H.size) ⟨cb, hts _ m1⟩ ⟨gPc_blind hFo, hU⟩ rfl hlen hl.1 rfl (lv_room hst) hd ⟨r5, r6⟩
  refine va_callq hr hS (fun q _ h => hFr q h) hFr (fun r u t H1 locs1 ht hvm hw hB hz hk hS' => ?_)
  obtain ⟨hP1, hD1⟩ := hB
  rw [ht] at hP1
  obtain ⟨hP2, hD2⟩ := va_joinP hP hD isC isR (pick_map hBC) (pick_map hBR) hnR (dsj_ok hdis) hk hFr hP1 hD1
  have hP3 := wP_pick hP2 isF
  have hD3 := wD_pick hD2 isF (hBF u) hnF
  rw [hW u] at hP3 hD3
  exact kk r u hw H1 locs1 ls hP3 hD3 hS' hl
theorem a_callSNo (C : Cok X cc nL own rm Fz) {wc : va_W} {post : Option Nat → S → Prop} (hM : MO (cxL X) y cy ny ry rmy (cxG X) Fz' As wc pl post Wf Pf mc ms) (hd : decode cc pc = .ok (.invokestatic idx, 3)) (hm : MthS y cy ny ry nA) {host : String} (hlk : ∀ A U, Fz A U → va_Nw (.methodLinkNest own idx y host) U) (hFz : ∀ A U, Fz A U → Fz' A U) (hFo : FzOk Fz') (hrm : RmOk rmy rm ny mc ms k n) (hst : (st.map fun v => v.category).sum ≤ 8) (hlen : As.length = nA) (hs : As.reverse ++ st = st0) (isC isR isF : List Nat) (hC : pick ws isC = wc) (hBC : inB ws isC = true) (hBR : inB ws isR = true) (hnC : va_nd isC = true) (hnR : va_nd isR = true) (hdis : dsj isR isC = true) (hBF : ∀ u, inB (pick ws isR ++ Wf u) isF = true) (hnF : va_nd isF = true) (hW : ∀ u, pick (pick ws isR ++ Wf u) isF = ws' u) (kk : ∀ (r : Option Nat) (u : S), post r u → AW X nL (k + mc) (n + ms) (ws' u) (Pf u) (pc + 3) lo (va_rf r :: st)) : AW X nL k n ws pl pc lo st0 := by
  obtain ⟨p, l, e, R, s, m, args, below, meth, c, g, A, Q⟩ := X
  obtain ⟨hx, hb, hml, hown, hts, hK, hA, hR, hF⟩ := C
  subst hR
  intro H locs ls hP hD hS hl
  subst hC
  subst hs
  obtain ⟨r1, r2, r3, r4, r5, r6⟩ := hrm
  have hFr := fr_pick hD hS hA isC hBC hnC
  have hU := pre_of As hK hP hD hS hA hF hFz hFo isC hBC hnC
  obtain ⟨m1, m3, m4, m5, m6, m7⟩ := hm
  have cb := va_cnB (Ts := tb) (R := R) nA hts (gd_tb (fun _ h => h) m4) rfl r1 r2 (hlk A s hF) (hts _ m3) ⟨m5, m6, m7⟩ ⟨r3, r4⟩
  have hr := va_runSN (l := l) (e := e) (below := below) (meth := meth) (locs := locs) (cells := k) (slots := n) (g := F0 m pc ls (As.reverse ++ st)) (As := As) (rest := st) ⟨hx, hb, hml, hown, hts⟩ (hM H.size) ⟨cb, hts _ m1, trivial⟩ ⟨gPc_blind hFo, hU⟩ rfl hlen hl.1 rfl (lv_room hst) hd ⟨r5, r6⟩
  refine va_callq hr hS (fun q _ h => hFr q h) hFr (fun r u t H1 locs1 ht hvm hw hB hz hk hS' => ?_)
  obtain ⟨hP1, hD1⟩ := hB
  rw [ht] at hP1
  obtain ⟨hP2, hD2⟩ := va_joinP hP hD isC isR (pick_map hBC) (pick_map hBR) hnR (dsj_ok hdis) hk hFr hP1 hD1
  have hP3 := wP_pick hP2 isF
  have hD3 := wD_pick hD2 isF (hBF u) hnF
  rw [hW u] at hP3 hD3
  exact kk r u hw H1 locs1 ls hP3 hD3 hS' hl
end AC
def loP (nL : Nat) (av : List Value) : List (Option Value) := loA av ++ List.replicate (nL - (loA av).length) none
theorem loP_has {ls : Array Slot} {nL : Nat} {av : List Value} (h : lv_has ls nL (lv_args 0 av)) : lo_has ls nL (loP nL av) := by
  refine ⟨h.1, h.2.1, fun i v hi => ?_⟩
  by_cases hl : i < (loA av).length
  · rw [loP, List.getElem?_append_left hl] at hi
    have h2 := loA_in av 0 i v hi
    rw [Nat.zero_add] at h2
    exact h.2.2 (i, v) h2
  · rw [loP, List.getElem?_append_right (by omega)] at hi
    have := List.eq_of_mem_replicate (List.mem_of_getElem? hi)
    cases this
theorem met_i {l : Launch} {y : MethodName} {cc : ByteArray} {nL : Nat} {rm : Room} {g : GG} {Fz : (Nat → Prop) → State → Prop} {av : List Value} {wc : va_W} {pl : Pool} {S : Type} {post : Int32 → S → Prop} {Wf : S → va_W} {Pf : S → Pool} {mc ms : Nat} {own : String} (hy : plainName y.cls = true) (ho : y.cls = own) (hlen : (lg_sl av).length ≤ nL)
    (body : ∀ X : Ctx, cxG X = g → cxL X = l → Cok X cc nL own rm Fz → (y.name = "<init>" → Cini X) → (∀ (r : Int32) (u : S) (pc : Nat) (lo : List (Option Value)), post r u → decode cc pc = .ok (.ireturn, 1) → AW X nL mc ms (Wf u) (Pf u) pc lo [.int r]) → AW X nL 0 0 wc pl 0 (loP nL av) []) : MI l y cc nL (some .int) rm g Fz av wc pl post Wf Pf mc ms := by
  intro sz
  refine Met.ofW (cc := cc) (maxL := nL) (ret := some .int) hy rfl ?_
  intro p e s m args below meth c s₁ B hml hv
  obtain ⟨rfl, hsz, hP, hK, hD0, hF⟩ := hv
  subst hsz
  have hts := atoms_spec (ws := gw y cc nL (some .int)) B.pre
  have hown : s.vm.findClass own = some m.cls := ho ▸ findClass_of_methodNamed B.named
  have hD := hD0.self (sz := s.heap.size)
  have hin : y.name = "<init>" → meth.name = "<init>" := fun h => by rw [(name_of_methodNamed B.named B.method).1, h]
  have key := body (p, l, e, rm, s, m, av.toArray, below, meth, c, g, va_A (wc ++ pl) s.heap.size, MQ below (va_Qi post (gB g wc pl s.heap.size Wf Pf) (va_A (wc ++ pl) s.heap.size)) av.toArray s mc ms (va_A (wc ++ pl) s.heap.size)) rfl rfl ⟨B.exec, B.bytes, hml, hown, fun w hw => hts w (List.mem_cons_of_mem _ hw), hK, fun q h => Or.inr h, rfl, hF⟩ hin (fun r u pc lo hp hd => by
    intro H locs ls hP hD hS hl
    exact W.iret B.exec B.bytes B.returns (fun t ht hW => ⟨⟨r, u, rfl, hp, by rw [ht]; exact hP, hD⟩, hS.F ht⟩) hS.2.2 hd B.notSynchronized)
  rw [lg_entry_eq]
  exact key s.heap [] _ hP hD va_S.rf (loP_has (lv_entry av hlen))
theorem met_z {l : Launch} {y : MethodName} {cc : ByteArray} {nL : Nat} {rm : Room} {g : GG} {Fz : (Nat → Prop) → State → Prop} {av : List Value} {wc : va_W} {pl : Pool} {S : Type} {post : Int32 → S → Prop} {Wf : S → va_W} {Pf : S → Pool} {mc ms : Nat} {own : String} (hy : plainName y.cls = true) (ho : y.cls = own) (hlen : (lg_sl av).length ≤ nL)
    (body : ∀ X : Ctx, cxG X = g → cxL X = l → Cok X cc nL own rm Fz → (y.name = "<init>" → Cini X) → (∀ (r : Int32) (u : S) (pc : Nat) (lo : List (Option Value)), narrow .boolean (.int r) = .int r → post r u → decode cc pc = .ok (.ireturn, 1) → AW X nL mc ms (Wf u) (Pf u) pc lo [.int r]) → AW X nL 0 0 wc pl 0 (loP nL av) []) : MI l y cc nL (some .boolean) rm g Fz av wc pl (fun r u => narrow .boolean (.int r) = .int r ∧ post r u) Wf Pf mc ms := by
  intro sz
  refine Met.ofW (cc := cc) (maxL := nL) (ret := some .boolean) hy rfl ?_
  intro p e s m args below meth c s₁ B hml hv
  obtain ⟨rfl, hsz, hP, hK, hD0, hF⟩ := hv
  subst hsz
  have hts := atoms_spec (ws := gw y cc nL (some .boolean)) B.pre
  have hown : s.vm.findClass own = some m.cls := ho ▸ findClass_of_methodNamed B.named
  have hD := hD0.self (sz := s.heap.size)
  have hin : y.name = "<init>" → meth.name = "<init>" := fun h => by rw [(name_of_methodNamed B.named B.method).1, h]
  have key := body (p, l, e, rm, s, m, av.toArray, below, meth, c, g, va_A (wc ++ pl) s.heap.size, MQ below (va_Qi (fun r u => narrow .boolean (.int r) = .int r ∧ post r u) (gB g wc pl s.heap.size Wf Pf) (va_A (wc ++ pl) s.heap.size)) av.toArray s mc ms (va_A (wc ++ pl) s.heap.size)) rfl rfl ⟨B.exec, B.bytes, hml, hown, fun w hw => hts w (List.mem_cons_of_mem _ hw), hK, fun q h => Or.inr h, rfl, hF⟩ hin (fun r u pc lo hn hp hd => by
    intro H locs ls hP hD hS hl
    exact W.zret B.exec B.bytes B.returns hn (fun t ht hW => ⟨⟨r, u, rfl, ⟨hn, hp⟩, by rw [ht]; exact hP, hD⟩, hS.F ht⟩) hS.2.2 hd B.notSynchronized)
  rw [lg_entry_eq]
  exact key s.heap [] _ hP hD va_S.rf (loP_has (lv_entry av hlen))
theorem met_c {l : Launch} {y : MethodName} {cc : ByteArray} {nL : Nat} {rm : Room} {g : GG} {Fz : (Nat → Prop) → State → Prop} {av : List Value} {wc : va_W} {pl : Pool} {S : Type} {post : Int32 → S → Prop} {Wf : S → va_W} {Pf : S → Pool} {mc ms : Nat} {own : String} (hy : plainName y.cls = true) (ho : y.cls = own) (hlen : (lg_sl av).length ≤ nL)
    (body : ∀ X : Ctx, cxG X = g → cxL X = l → Cok X cc nL own rm Fz → (y.name = "<init>" → Cini X) → (∀ (r : Int32) (u : S) (pc : Nat) (lo : List (Option Value)), narrow .char (.int r) = .int r → post r u → decode cc pc = .ok (.ireturn, 1) → AW X nL mc ms (Wf u) (Pf u) pc lo [.int r]) → AW X nL 0 0 wc pl 0 (loP nL av) []) : MI l y cc nL (some .char) rm g Fz av wc pl (fun r u => narrow .char (.int r) = .int r ∧ post r u) Wf Pf mc ms := by
  intro sz
  refine Met.ofW (cc := cc) (maxL := nL) (ret := some .char) hy rfl ?_
  intro p e s m args below meth c s₁ B hml hv
  obtain ⟨rfl, hsz, hP, hK, hD0, hF⟩ := hv
  subst hsz
  have hts := atoms_spec (ws := gw y cc nL (some .char)) B.pre
  have hown : s.vm.findClass own = some m.cls := ho ▸ findClass_of_methodNamed B.named
  have hD := hD0.self (sz := s.heap.size)
  have hin : y.name = "<init>" → meth.name = "<init>" := fun h => by rw [(name_of_methodNamed B.named B.method).1, h]
  have key := body (p, l, e, rm, s, m, av.toArray, below, meth, c, g, va_A (wc ++ pl) s.heap.size, MQ below (va_Qi (fun r u => narrow .char (.int r) = .int r ∧ post r u) (gB g wc pl s.heap.size Wf Pf) (va_A (wc ++ pl) s.heap.size)) av.toArray s mc ms (va_A (wc ++ pl) s.heap.size)) rfl rfl ⟨B.exec, B.bytes, hml, hown, fun w hw => hts w (List.mem_cons_of_mem _ hw), hK, fun q h => Or.inr h, rfl, hF⟩ hin (fun r u pc lo hn hp hd => by
    intro H locs ls hP hD hS hl
    exact W.zret B.exec B.bytes B.returns hn (fun t ht hW => ⟨⟨r, u, rfl, ⟨hn, hp⟩, by rw [ht]; exact hP, hD⟩, hS.F ht⟩) hS.2.2 hd B.notSynchronized)
  rw [lg_entry_eq]
  exact key s.heap [] _ hP hD va_S.rf (loP_has (lv_entry av hlen))
theorem met_l {l : Launch} {y : MethodName} {cc : ByteArray} {nL : Nat} {rm : Room} {g : GG} {Fz : (Nat → Prop) → State → Prop} {av : List Value} {wc : va_W} {pl : Pool} {S : Type} {post : Int64 → S → Prop} {Wf : S → va_W} {Pf : S → Pool} {mc ms : Nat} {own : String} (hy : plainName y.cls = true) (ho : y.cls = own) (hlen : (lg_sl av).length ≤ nL)
    (body : ∀ X : Ctx, cxG X = g → cxL X = l → Cok X cc nL own rm Fz → (y.name = "<init>" → Cini X) → (∀ (r : Int64) (u : S) (pc : Nat) (lo : List (Option Value)), post r u → decode cc pc = .ok (.lreturn, 1) → AW X nL mc ms (Wf u) (Pf u) pc lo [.long r]) → AW X nL 0 0 wc pl 0 (loP nL av) []) : ML l y cc nL (some .long) rm g Fz av wc pl post Wf Pf mc ms := by
  intro sz
  refine Met.ofW (cc := cc) (maxL := nL) (ret := some .long) hy rfl ?_
  intro p e s m args below meth c s₁ B hml hv
  obtain ⟨rfl, hsz, hP, hK, hD0, hF⟩ := hv
  subst hsz
  have hts := atoms_spec (ws := gw y cc nL (some .long)) B.pre
  have hown : s.vm.findClass own = some m.cls := ho ▸ findClass_of_methodNamed B.named
  have hD := hD0.self (sz := s.heap.size)
  have hin : y.name = "<init>" → meth.name = "<init>" := fun h => by rw [(name_of_methodNamed B.named B.method).1, h]
  have key := body (p, l, e, rm, s, m, av.toArray, below, meth, c, g, va_A (wc ++ pl) s.heap.size, MQ below (va_Ql post (gB g wc pl s.heap.size Wf Pf) (va_A (wc ++ pl) s.heap.size)) av.toArray s mc ms (va_A (wc ++ pl) s.heap.size)) rfl rfl ⟨B.exec, B.bytes, hml, hown, fun w hw => hts w (List.mem_cons_of_mem _ hw), hK, fun q h => Or.inr h, rfl, hF⟩ hin (fun r u pc lo hp hd => by
    intro H locs ls hP hD hS hl
    exact W.lret B.exec B.bytes B.returns (fun t ht hW => ⟨⟨r, u, rfl, hp, by rw [ht]; exact hP, hD⟩, hS.F ht⟩) hS.2.2 hd B.notSynchronized)
  rw [lg_entry_eq]
  exact key s.heap [] _ hP hD va_S.rf (loP_has (lv_entry av hlen))
theorem met_v {l : Launch} {y : MethodName} {cc : ByteArray} {nL : Nat} {rm : Room} {g : GG} {Fz : (Nat → Prop) → State → Prop} {av : List Value} {wc : va_W} {pl : Pool} {S : Type} {post : S → Prop} {Wf : S → va_W} {Pf : S → Pool} {mc ms : Nat} {own : String} (hy : plainName y.cls = true) (ho : y.cls = own) (hlen : (lg_sl av).length ≤ nL)
    (body : ∀ X : Ctx, cxG X = g → cxL X = l → Cok X cc nL own rm Fz → (y.name = "<init>" → Cini X) → (∀ (u : S) (pc : Nat) (lo : List (Option Value)), post u → decode cc pc = .ok (.return_, 1) → AW X nL mc ms (Wf u) (Pf u) pc lo []) → AW X nL 0 0 wc pl 0 (loP nL av) []) : MV l y cc nL (none) rm g Fz av wc pl post Wf Pf mc ms := by
  intro sz
  refine Met.ofW (cc := cc) (maxL := nL) (ret := none) hy rfl ?_
  intro p e s m args below meth c s₁ B hml hv
  obtain ⟨rfl, hsz, hP, hK, hD0, hF⟩ := hv
  subst hsz
  have hts := atoms_spec (ws := gw y cc nL (none)) B.pre
  have hown : s.vm.findClass own = some m.cls := ho ▸ findClass_of_methodNamed B.named
  have hD := hD0.self (sz := s.heap.size)
  have hin : y.name = "<init>" → meth.name = "<init>" := fun h => by rw [(name_of_methodNamed B.named B.method).1, h]
  have key := body (p, l, e, rm, s, m, av.toArray, below, meth, c, g, va_A (wc ++ pl) s.heap.size, MQ below (va_Qv post (gB g wc pl s.heap.size Wf Pf) (va_A (wc ++ pl) s.heap.size)) av.toArray s mc ms (va_A (wc ++ pl) s.heap.size)) rfl rfl ⟨B.exec, B.bytes, hml, hown, fun w hw => hts w (List.mem_cons_of_mem _ hw), hK, fun q h => Or.inr h, rfl, hF⟩ hin (fun u pc lo hp hd => by
    intro H locs ls hP hD hS hl
    exact W.vret B.exec B.bytes B.returns (fun t ht hW => ⟨⟨u, rfl, hp, by rw [ht]; exact hP, hD⟩, hS.F ht⟩) hS.2.2 hd B.notSynchronized)
  rw [lg_entry_eq]
  exact key s.heap [] _ hP hD va_S.rf (loP_has (lv_entry av hlen))
theorem met_o {l : Launch} {y : MethodName} {cc : ByteArray} {nL : Nat} {rm : Room} {g : GG} {Fz : (Nat → Prop) → State → Prop} {av : List Value} {wc : va_W} {pl : Pool} {S : Type} {post : Option Nat → S → Prop} {Wf : S → va_W} {Pf : S → Pool} {mc ms : Nat} {own : String} {rc : String} (hy : plainName y.cls = true) (ho : y.cls = own) (hlen : (lg_sl av).length ≤ nL)
    (body : ∀ X : Ctx, cxG X = g → cxL X = l → Cok X cc nL own rm Fz → (y.name = "<init>" → Cini X) → (∀ (r : Option Nat) (u : S) (pc : Nat) (lo : List (Option Value)), post r u → decode cc pc = .ok (.areturn, 1) → AW X nL mc ms (Wf u) (Pf u) pc lo [va_rf r]) → AW X nL 0 0 wc pl 0 (loP nL av) []) : MO l y cc nL (some (.object rc)) rm g Fz av wc pl post Wf Pf mc ms := by
  intro sz
  refine Met.ofW (cc := cc) (maxL := nL) (ret := some (.object rc)) hy rfl ?_
  intro p e s m args below meth c s₁ B hml hv
  obtain ⟨rfl, hsz, hP, hK, hD0, hF⟩ := hv
  subst hsz
  have hts := atoms_spec (ws := gw y cc nL (some (.object rc))) B.pre
  have hown : s.vm.findClass own = some m.cls := ho ▸ findClass_of_methodNamed B.named
  have hD := hD0.self (sz := s.heap.size)
  have hin : y.name = "<init>" → meth.name = "<init>" := fun h => by rw [(name_of_methodNamed B.named B.method).1, h]
  have key := body (p, l, e, rm, s, m, av.toArray, below, meth, c, g, va_A (wc ++ pl) s.heap.size, MQ below (va_Qq post (gB g wc pl s.heap.size Wf Pf) (va_A (wc ++ pl) s.heap.size)) av.toArray s mc ms (va_A (wc ++ pl) s.heap.size)) rfl rfl ⟨B.exec, B.bytes, hml, hown, fun w hw => hts w (List.mem_cons_of_mem _ hw), hK, fun q h => Or.inr h, rfl, hF⟩ hin (fun r u pc lo hp hd => by
    intro H locs ls hP hD hS hl
    exact W.aret B.exec B.bytes B.returns (Or.inl ⟨rc, rfl⟩) (va_rf_or r) (fun t ht hW => ⟨⟨r, u, rfl, hp, by rw [ht]; exact hP, hD⟩, hS.F ht⟩) hS.2.2 hd B.notSynchronized)
  rw [lg_entry_eq]
  exact key s.heap [] _ hP hD va_S.rf (loP_has (lv_entry av hlen))
