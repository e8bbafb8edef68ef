/-! RULES in the printer's form: names for what is computed, locals and worlds in their own words -/
def rmL (d : Nat) : Room := { frames := d, cells := 0, slots := 0, locals := 60 * d }
theorem rml {a b ny : Nat} (h : a < b) (hn : ny ≤ 41) : RmOk (rmL a) (rmL b) ny 0 0 0 0 := ⟨rfl, rfl, h, by show 8 + (ny + 11) + 60 * a ≤ 60 * b; omega, Nat.le_refl _, Nat.le_refl _⟩
section AZ
variable {X : Ctx} {cc : ByteArray} {nL k n : Nat} {own : String} {rm : Room} {Fz : (Nat → Prop) → State → Prop} {ws : va_W} {pl : Pool} {lo lo' : List (Option Value)} {st : List Value} {pc : Nat}
theorem a_top2i {x : Int32} {v : Value} (kk : ∀ y : Int32, y = x → AW X nL k n ws pl pc lo (v :: .int y :: st)) : AW X nL k n ws pl pc lo (v :: .int x :: st) := kk x rfl
theorem a_jrem (C : Cok X cc nL own rm Fz) {x y : Int32} (hd : decode cc pc = .ok (.irem, 1)) (hne : ¬ y = 0) (kk : AW X nL k n ws pl (pc + 1) lo (.int (jrem x y) :: st)) : AW X nL k n ws pl pc lo (.int y :: .int x :: st) := a_irem C hd hne kk
theorem a_jremL (C : Cok X cc nL own rm Fz) {x y : Int64} (hd : decode cc pc = .ok (.lrem, 1)) (hne : ¬ y = 0) (kk : AW X nL k n ws pl (pc + 1) lo (.long (jremL x y) :: st)) : AW X nL k n ws pl pc lo (.long y :: .long x :: st) := a_lrem C hd hne kk
theorem a_inc (C : Cok X cc nL own rm Fz) {i : Nat} {d : Int} {x v : Int32} (lo' : Int32 → List (Option Value)) (hd : decode cc pc = .ok (.iinc i d, 3)) (hv : lo[i]? = some (some (.int x))) (he : Int32.ofInt d = v) (hn : i < nL) (h0 : okS lo i = true) (hl : ∀ y, lo.set i (some (.int y)) = lo' y) (kk : ∀ y : Int32, y = x + v → AW X nL k n ws pl (pc + 3) (lo' y) st) : AW X nL k n ws pl pc lo st := by
  refine a_iinc C hd hv he hn h0 ?_
  rw [hl]
  exact kk _ rfl
theorem s_istore_n (C : Cok X cc nL own rm Fz) {j : Fin 4} {i : Nat} {x : Int32} (hd : decode cc pc = .ok (.istore_n j, 1)) (hi : (j : Nat) = i) (hn : i < nL) (h0 : okS lo i = true) (hl : lo.set i (some (.int x)) = lo') (kk : AW X nL k n ws pl (pc + 1) lo' st) : AW X nL k n ws pl pc lo (.int x :: st) := by
  subst hl
  exact a_istore_n C hd hi hn h0 kk
theorem s_istore (C : Cok X cc nL own rm Fz) {i : Nat} {x : Int32} (hd : decode cc pc = .ok (.istore i, 2)) (hn : i < nL) (h0 : okS lo i = true) (hl : lo.set i (some (.int x)) = lo') (kk : AW X nL k n ws pl (pc + 2) lo' st) : AW X nL k n ws pl pc lo (.int x :: st) := by
  subst hl
  exact a_istore C hd hn h0 kk
theorem s_lstore_n (C : Cok X cc nL own rm Fz) {j : Fin 4} {i : Nat} {x : Int64} (hd : decode cc pc = .ok (.lstore_n j, 1)) (hi : (j : Nat) = i) (hn : i + 1 < nL) (h0 : okS lo i = true) (hl : (lo.set i (some (.long x))).set (i + 1) none = lo') (kk : AW X nL k n ws pl (pc + 1) lo' st) : AW X nL k n ws pl pc lo (.long x :: st) := by
  subst hl
  exact a_lstore_n C hd hi hn h0 kk
theorem s_lstore (C : Cok X cc nL own rm Fz) {i : Nat} {x : Int64} (hd : decode cc pc = .ok (.lstore i, 2)) (hn : i + 1 < nL) (h0 : okS lo i = true) (hl : (lo.set i (some (.long x))).set (i + 1) none = lo') (kk : AW X nL k n ws pl (pc + 2) lo' st) : AW X nL k n ws pl pc lo (.long x :: st) := by
  subst hl
  exact a_lstore C hd hn h0 kk
theorem s_astore_n (C : Cok X cc nL own rm Fz) {j : Fin 4} {i : Nat} {x : Nat} (hd : decode cc pc = .ok (.astore_n j, 1)) (hi : (j : Nat) = i) (hn : i < nL) (h0 : okS lo i = true) (hl : lo.set i (some (.ref x)) = lo') (kk : AW X nL k n ws pl (pc + 1) lo' st) : AW X nL k n ws pl pc lo (.ref x :: st) := by
  subst hl
  exact a_astore_n C hd hi hn h0 kk
theorem s_astore (C : Cok X cc nL own rm Fz) {i : Nat} {x : Nat} (hd : decode cc pc = .ok (.astore i, 2)) (hn : i < nL) (h0 : okS lo i = true) (hl : lo.set i (some (.ref x)) = lo') (kk : AW X nL k n ws pl (pc + 2) lo' st) : AW X nL k n ws pl pc lo (.ref x :: st) := by
  subst hl
  exact a_astore C hd hn h0 kk
theorem s_astore_nN (C : Cok X cc nL own rm Fz) {j : Fin 4} {i : Nat} (hd : decode cc pc = .ok (.astore_n j, 1)) (hi : (j : Nat) = i) (hn : i < nL) (h0 : okS lo i = true) (hl : lo.set i (some .null) = lo') (kk : AW X nL k n ws pl (pc + 1) lo' st) : AW X nL k n ws pl pc lo (.null :: st) := by
  subst hl
  exact a_astore_nN C hd hi hn h0 kk
theorem s_astoreN (C : Cok X cc nL own rm Fz) {i : Nat} (hd : decode cc pc = .ok (.astore i, 2)) (hn : i < nL) (h0 : okS lo i = true) (hl : lo.set i (some .null) = lo') (kk : AW X nL k n ws pl (pc + 2) lo' st) : AW X nL k n ws pl pc lo (.null :: st) := by
  subst hl
  exact a_astoreN C hd hn h0 kk
theorem a_mmax (C : Cok X cc nL own rm Fz) {idx : Nat} {x y : Int32} (hd : decode cc pc = .ok (.invokestatic idx, 3)) (h1 : Cond.methodLink own idx Lib.Math.max.name ∈ tb) (h2 : Cond.static Lib.Math.max.name ∈ tb) (h3 : Cond.initialized "java/lang/Math" ∈ tb) (h4 : Cond.code Lib.Math.max.name Lib.Math.max.code 2 (some .int) ∈ tb) (hf : 1 ≤ rm.frames) (hL : (st.map fun v => v.category).sum + 13 ≤ rm.locals) (hc : k ≤ rm.cells) (hs : n ≤ rm.slots) (kk : AW X nL k n ws pl (pc + 3) lo (.int (if x < y then y else x) :: st)) : AW X nL k n ws pl pc lo (.int y :: .int x :: st) := by
  obtain ⟨p, l, e, R, s, m, args, below, meth, c, g, A, Q⟩ := X
  obtain ⟨hx, hb, hml, hown, hts, hK, hA, hR, hF⟩ := C
  subst hR
  intro H locs ls hP hD hS hl
  exact va_mmax hx hb (hml.trans hl.1.symm) hown (hts _ h1) (hts _ h2) (hts _ h3) (hts _ h4) hf hL hc hs hd (kk H locs ls hP hD hS hl)
theorem a_mmin (C : Cok X cc nL own rm Fz) {idx : Nat} {x y : Int32} (hd : decode cc pc = .ok (.invokestatic idx, 3)) (h1 : Cond.methodLink own idx Lib.Math.min.name ∈ tb) (h2 : Cond.static Lib.Math.min.name ∈ tb) (h3 : Cond.initialized "java/lang/Math" ∈ tb) (h4 : Cond.code Lib.Math.min.name Lib.Math.min.code 2 (some .int) ∈ tb) (hf : 1 ≤ rm.frames) (hL : (st.map fun v => v.category).sum + 13 ≤ rm.locals) (hc : k ≤ rm.cells) (hs : n ≤ rm.slots) (kk : AW X nL k n ws pl (pc + 3) lo (.int (if y < x then y else x) :: st)) : AW X nL k n ws pl pc lo (.int y :: .int x :: st) := by
  obtain ⟨p, l, e, R, s, m, args, below, meth, c, g, A, Q⟩ := X
  obtain ⟨hx, hb, hml, hown, hts, hK, hA, hR, hF⟩ := C
  subst hR
  intro H locs ls hP hD hS hl
  exact va_mmin hx hb (hml.trans hl.1.symm) hown (hts _ h1) (hts _ h2) (hts _ h3) (hts _ h4) hf hL hc hs hd (kk H locs ls hP hD hS hl)
end AZ
theorem sw_eq {x : Int32} {j : Nat} (hj : j < 2 ^ 31) (h : x.toInt = j) : x = nI j := Int32.toInt_inj.mp (by rw [h, nI_toInt hj])
theorem mi_b01 {l : Launch} {y : MethodName} {cc : ByteArray} {nL : Nat} {ret : Option FieldType} {rm : Room} {g : GG} {Fz : (Nat → Prop) → State → Prop} {av : List Value} {wc : va_W} {pl : Pool} {S : Type} {post : Int32 → S → Prop} {Wf : S → va_W} {Pf : S → Pool} {mc ms : Nat} (h : MI l y cc nL ret rm g Fz av wc pl (fun r u => narrow .boolean (.int r) = .int r ∧ post r u) Wf Pf mc ms) : MI l y cc nL ret rm g Fz av wc pl (fun r u => b01 r ∧ post r u) Wf Pf mc ms := by
  have e : (fun (r : Int32) (u : S) => b01 r ∧ post r u) = (fun r u => narrow .boolean (.int r) = .int r ∧ post r u) := by
    funext r u
    exact propext ⟨fun z => ⟨b01_nar z.1, z.2⟩, fun z => ⟨nar_b01 z.1, z.2⟩⟩
  rw [e]
  exact h
/-- a call with up to 16 words on the stack beneath it -/
theorem run_V16 {p : Program} {l : Launch} {e : Env} {R : Room} {s : State} {m : MethodId} {args : Array Value} {below : List Frame} {meth : Method} {c : Code} {H : Heap} {locs : List Loc} {cells slots : Nat} {y : MethodName} {bytes cc : ByteArray} {maxL nL mc ms n index : Nat} {ret : Option FieldType} {ws : List Cond} {rm : Room} {Pc : Array Value → State → Prop} {Qc : Array Value → State → Outcome → State → Prop} {free : Addr → Prop} {Ts : List Cond} {own C : String} {b : Addr} {As rest : List Value} {g : JFrame} (S : CallFix p m c cc nL s args Ts own) (hM : Met l y ws rm Pc Qc mc ms free) (cw : CallW R s args own C index y bytes maxL ret ws rm mc ms n) (h16 : 16 + (maxL + 11) + rm.locals ≤ R.locals) (hp : PreV s H C b Pc As)
    (hg : g.method = m) (hn : As.length = n) (hsize : g.locals.size = nL) (hstack : g.stack = As.reverse ++ .ref b :: rest) (hW : 2 * g.monitorRoom + (rest.map fun v => v.category).sum ≤ 16) (hdg : decode cc g.pc = .ok (.invokevirtual index, 3)) (hf : cells + mc ≤ R.cells ∧ slots + ms ≤ R.slots) :
    va_Run p l e R s m args below meth c H locs cells slots mc ms g rest (Qc (Value.ref b :: As).toArray) (free) := by
  obtain ⟨⟨hrc, hrs, hfr, hlo, hws, hcw, hcode, hini, hy, hlen, hl⟩, hin, hse⟩ := cw
  have hK : Back l R p e below s args y 3 16 (PreOf R mc ms Pc) (PostOf Qc mc ms free) := back_of (bytes := bytes) (maxL := maxL) (ret := ret) hM hp.1 hrc hrs hfr h16 hws hcw (fun a' U hW => word_at hW (Or.inl (by first | rfl | simp [Cond.onTables, Cond.keeps, Cond.steady])) hini)
  obtain ⟨hx, hb, hml, ho, -⟩ := S
  obtain ⟨-, ⟨cellB, hcB, hoB, hclB⟩, hPc⟩ := hp
  intro T hT X
  obtain ⟨v, vm₁, ⟨U', l2, c2, s2⟩, hW₁, X', ⟨g', mk, t, L, e1, e2, hq, h1, hL, h2, h3⟩, st⟩ := callV X hx (C := C) (bytes := bytes) (maxL := maxL) (ret := ret) ho hl hin hse hcode hy hK (by rw [hT]; exact hcB) hoB hclB hg (hsize.trans hml.symm) (argsL := As) (rest := rest) (fun sig h => hn.trans (hlen sig h)) hstack hW (by rw [hb]; exact hdg)
    (fun vm₁ hW₁ => ⟨hf.1, hf.2, hPc (T.setVm vm₁) hT hW₁⟩)
  dsimp only [Pt.U, Pt.locs, Pt.cells, Pt.slots] at X' e1 e2 h1 h2 h3 st
  subst h1; subst h2; subst h3
  exact ⟨v, (T.setVm vm₁).calling g' mk (Value.ref b :: As).toArray, t, U', L, hT, X', hL, e1, e2, hq, st⟩
theorem rm16 {a b ny : Nat} (h : a < b) (hn : ny ≤ 33) : 16 + (ny + 11) + (rmL a).locals ≤ (rmL b).locals := by show 16 + (ny + 11) + 60 * a ≤ 60 * b; omega
section AD
variable {X : Ctx} {cc : ByteArray} {nL k n : Nat} {own : String} {rm : Room} {Fz : (Nat → Prop) → State → Prop} {ws : va_W} {pl : Pool} {lo : List (Option Value)} {st : List Value} {pc : Nat}
variable {y : MethodName} {cy : ByteArray} {ny nA idx mc ms : Nat} {ry : Option FieldType} {rmy : Room} {Fz' : (Nat → Prop) → State → Prop} {As : List Value} {S : Type} {Wf : S → va_W} {Pf : S → Pool} {ws' : S → va_W} {st0 : List Value} {b : Nat}

theorem a_callVi16 (C : Cok X cc nL own rm Fz) {wc : va_W} {post : Int32 → S → Prop} (hM : MI (cxL X) y cy ny ry rmy (cxG X) Fz' (.ref b :: As) wc pl post Wf Pf mc ms) (hd : decode cc pc = .ok (.invokevirtual idx, 3)) (hm : MthV y cy ny ry nA) (hlk : Cond.methodLink own idx y ∈ tb) (hFz : ∀ A U, Fz A U → Fz' A U) (hFo : FzOk Fz') (hrm : RmOk rmy rm ny mc ms k n) (h16 : 16 + (ny + 11) + rmy.locals ≤ rm.locals) (hst : (st.map fun v => v.category).sum ≤ 16) (hlen : As.length = nA) (hs : As.reverse ++ .ref b :: st = st0) (isC isR isF : List Nat) (hC : pick ws isC = wc) (hBC : inB ws isC = true) (hBR : inB ws isR = true) (hnC : va_nd isC = true) (hnR : va_nd isR = true) (hdis : dsj isR isC = true) {ci : Nat} {T : u_T} {N : Nat} (hci : vwCl[ci]? = some (y.cls, T, N)) (hrec : ∃ (i : Nat) (fs : List Value), (pick ws isC ++ pl)[i]? = some (b, .inr (ci, fs))) (hBF : ∀ u, inB (pick ws isR ++ Wf u) isF = true) (hnF : va_nd isF = true) (hW : ∀ u, pick (pick ws isR ++ Wf u) isF = ws' u) (kk : ∀ (r : Int32) (u : S), post r u → AW X nL (k + mc) (n + ms) (ws' u) (Pf u) (pc + 3) lo (.int r :: st)) : AW X nL k n ws pl pc lo st0 := by
  obtain ⟨p, l, e, R, s, m, args, below, meth, c, g, A, Q⟩ := X
  obtain ⟨hx, hb, hml, hown, hts, hK, hA, hR, hF⟩ := C
  subst hR
  intro H locs ls hP hD hS hl
  subst hC
  subst hs
  obtain ⟨r1, r2, r3, r4, r5, r6⟩ := hrm
  have hFr := fr_pick hD hS hA isC hBC hnC
  have hU := pre_of (.ref b :: As) hK hP hD hS hA hF hFz hFo isC hBC hnC
  obtain ⟨m1, m2, m3, m4, m5, m6, m7⟩ := hm
  obtain ⟨i0, fs0, h0⟩ := hrec
  have hrv := va_recv hK (wP_pick hP isC) hci h0
  have cb := callB_of (Ts := tb) (R := R) nA hts (gd_tb (fun _ h => h) m4) rfl r1 r2 (hts _ m3) (hts _ hlk) ⟨m5, m6, m7⟩ ⟨r3, r4⟩
  have hr := run_V16 (l := l) (e := e) (below := below) (meth := meth) (locs := locs) (cells := k) (slots := n) (g := F0 m pc ls (As.reverse ++ .ref b :: st)) (As := As) (rest := st) ⟨hx, hb, hml, hown, hts⟩ (hM H.size) ⟨cb, hts _ m1, hts _ m2⟩ h16 ⟨gPc_blind hFo, hrv, hU⟩ rfl hlen hl.1 rfl (show 2 * 0 + _ ≤ 16 by omega) hd ⟨r5, r6⟩
  refine va_calli hr hS (fun q _ h => hFr q h) hFr (fun r u t H1 locs1 ht hvm hw hB hz hk hS' => ?_)
  obtain ⟨hP1, hD1⟩ := hB
  rw [ht] at hP1
  obtain ⟨hP2, hD2⟩ := va_joinP hP hD isC isR (pick_map hBC) (pick_map hBR) hnR (dsj_ok hdis) hk hFr hP1 hD1
  have hP3 := wP_pick hP2 isF
  have hD3 := wD_pick hD2 isF (hBF u) hnF
  rw [hW u] at hP3 hD3
  exact kk r u hw H1 locs1 ls hP3 hD3 hS' hl
end AD
theorem kb_m20 : (Int8.ofInt (-20)).toInt32 = (-20 : Int32) := by decide
theorem kb_6 : (Int8.ofInt 6).toInt32 = (6 : Int32) := by decide
theorem kb_7 : (Int8.ofInt 7).toInt32 = (7 : Int32) := by decide
theorem kb_8 : (Int8.ofInt 8).toInt32 = (8 : Int32) := by decide
theorem kb_9 : (Int8.ofInt 9).toInt32 = (9 : Int32) := by decide
theorem kb_10 : (Int8.ofInt 10).toInt32 = (10 : Int32) := by decide
theorem kb_11 : (Int8.ofInt 11).toInt32 = (11 : Int32) := by decide
theorem kb_12 : (Int8.ofInt 12).toInt32 = (12 : Int32) := by decide
theorem kb_13 : (Int8.ofInt 13).toInt32 = (13 : Int32) := by decide
theorem kb_14 : (Int8.ofInt 14).toInt32 = (14 : Int32) := by decide
theorem kb_15 : (Int8.ofInt 15).toInt32 = (15 : Int32) := by decide
theorem kb_16 : (Int8.ofInt 16).toInt32 = (16 : Int32) := by decide
theorem kb_17 : (Int8.ofInt 17).toInt32 = (17 : Int32) := by decide
theorem kb_18 : (Int8.ofInt 18).toInt32 = (18 : Int32) := by decide
theorem kb_19 : (Int8.ofInt 19).toInt32 = (19 : Int32) := by decide
theorem kb_20 : (Int8.ofInt 20).toInt32 = (20 : Int32) := by decide
theorem kb_21 : (Int8.ofInt 21).toInt32 = (21 : Int32) := by decide
theorem kb_22 : (Int8.ofInt 22).toInt32 = (22 : Int32) := by decide
theorem kb_23 : (Int8.ofInt 23).toInt32 = (23 : Int32) := by decide
theorem kb_24 : (Int8.ofInt 24).toInt32 = (24 : Int32) := by decide
theorem kb_25 : (Int8.ofInt 25).toInt32 = (25 : Int32) := by decide
theorem kb_26 : (Int8.ofInt 26).toInt32 = (26 : Int32) := by decide
theorem kb_27 : (Int8.ofInt 27).toInt32 = (27 : Int32) := by decide
theorem kb_28 : (Int8.ofInt 28).toInt32 = (28 : Int32) := by decide
theorem kb_29 : (Int8.ofInt 29).toInt32 = (29 : Int32) := by decide
theorem kb_30 : (Int8.ofInt 30).toInt32 = (30 : Int32) := by decide
theorem kb_32 : (Int8.ofInt 32).toInt32 = (32 : Int32) := by decide
theorem kb_33 : (Int8.ofInt 33).toInt32 = (33 : Int32) := by decide
theorem kb_39 : (Int8.ofInt 39).toInt32 = (39 : Int32) := by decide
theorem kb_40 : (Int8.ofInt 40).toInt32 = (40 : Int32) := by decide
theorem kb_41 : (Int8.ofInt 41).toInt32 = (41 : Int32) := by decide
theorem kb_42 : (Int8.ofInt 42).toInt32 = (42 : Int32) := by decide
theorem kb_43 : (Int8.ofInt 43).toInt32 = (43 : Int32) := by decide
theorem kb_45 : (Int8.ofInt 45).toInt32 = (45 : Int32) := by decide
theorem kb_48 : (Int8.ofInt 48).toInt32 = (48 : Int32) := by decide
theorem kb_50 : (Int8.ofInt 50).toInt32 = (50 : Int32) := by decide
theorem kb_51 : (Int8.ofInt 51).toInt32 = (51 : Int32) := by decide
theorem kb_52 : (Int8.ofInt 52).toInt32 = (52 : Int32) := by decide
theorem kb_56 : (Int8.ofInt 56).toInt32 = (56 : Int32) := by decide
theorem kb_57 : (Int8.ofInt 57).toInt32 = (57 : Int32) := by decide
theorem kb_59 : (Int8.ofInt 59).toInt32 = (59 : Int32) := by decide
theorem kb_60 : (Int8.ofInt 60).toInt32 = (60 : Int32) := by decide
theorem kb_61 : (Int8.ofInt 61).toInt32 = (61 : Int32) := by decide
theorem kb_63 : (Int8.ofInt 63).toInt32 = (63 : Int32) := by decide
theorem kb_64 : (Int8.ofInt 64).toInt32 = (64 : Int32) := by decide
theorem kb_96 : (Int8.ofInt 96).toInt32 = (96 : Int32) := by decide
theorem kb_97 : (Int8.ofInt 97).toInt32 = (97 : Int32) := by decide
theorem kb_99 : (Int8.ofInt 99).toInt32 = (99 : Int32) := by decide
theorem kb_100 : (Int8.ofInt 100).toInt32 = (100 : Int32) := by decide
theorem kb_101 : (Int8.ofInt 101).toInt32 = (101 : Int32) := by decide
theorem kb_119 : (Int8.ofInt 119).toInt32 = (119 : Int32) := by decide
theorem kb_120 : (Int8.ofInt 120).toInt32 = (120 : Int32) := by decide
theorem kb_122 : (Int8.ofInt 122).toInt32 = (122 : Int32) := by decide
theorem kb_126 : (Int8.ofInt 126).toInt32 = (126 : Int32) := by decide
theorem kb_127 : (Int8.ofInt 127).toInt32 = (127 : Int32) := by decide
theorem kc_m8 : Int32.ofInt (-8) = (-8 : Int32) := by decide
theorem kc_m1 : Int32.ofInt (-1) = (-1 : Int32) := by decide
theorem kc_0 : Int32.ofInt 0 = (0 : Int32) := by decide
theorem kc_1 : Int32.ofInt 1 = (1 : Int32) := by decide
theorem kc_2 : Int32.ofInt 2 = (2 : Int32) := by decide
theorem kc_3 : Int32.ofInt 3 = (3 : Int32) := by decide
theorem kc_4 : Int32.ofInt 4 = (4 : Int32) := by decide
theorem kc_5 : Int32.ofInt 5 = (5 : Int32) := by decide
theorem kc_10 : Int32.ofInt 10 = (10 : Int32) := by decide
theorem ks_128 : (Int16.ofInt 128).toInt32 = (128 : Int32) := by decide
theorem ks_200 : (Int16.ofInt 200).toInt32 = (200 : Int32) := by decide
theorem ks_201 : (Int16.ofInt 201).toInt32 = (201 : Int32) := by decide
theorem ks_255 : (Int16.ofInt 255).toInt32 = (255 : Int32) := by decide
theorem ks_261 : (Int16.ofInt 261).toInt32 = (261 : Int32) := by decide
theorem ks_262 : (Int16.ofInt 262).toInt32 = (262 : Int32) := by decide
theorem ks_382 : (Int16.ofInt 382).toInt32 = (382 : Int32) := by decide
theorem ks_400 : (Int16.ofInt 400).toInt32 = (400 : Int32) := by decide
theorem ks_404 : (Int16.ofInt 404).toInt32 = (404 : Int32) := by decide
theorem ks_424 : (Int16.ofInt 424).toInt32 = (424 : Int32) := by decide
theorem ks_425 : (Int16.ofInt 425).toInt32 = (425 : Int32) := by decide
theorem ks_440 : (Int16.ofInt 440).toInt32 = (440 : Int32) := by decide
theorem ks_480 : (Int16.ofInt 480).toInt32 = (480 : Int32) := by decide
theorem ks_540 : (Int16.ofInt 540).toInt32 = (540 : Int32) := by decide
theorem ks_640 : (Int16.ofInt 640).toInt32 = (640 : Int32) := by decide
theorem ks_641 : (Int16.ofInt 641).toInt32 = (641 : Int32) := by decide
theorem ks_701 : (Int16.ofInt 701).toInt32 = (701 : Int32) := by decide
theorem ks_702 : (Int16.ofInt 702).toInt32 = (702 : Int32) := by decide
theorem ks_822 : (Int16.ofInt 822).toInt32 = (822 : Int32) := by decide
theorem ks_864 : (Int16.ofInt 864).toInt32 = (864 : Int32) := by decide
theorem ks_865 : (Int16.ofInt 865).toInt32 = (865 : Int32) := by decide
theorem ks_960 : (Int16.ofInt 960).toInt32 = (960 : Int32) := by decide
theorem ks_1000 : (Int16.ofInt 1000).toInt32 = (1000 : Int32) := by decide
theorem ks_1001 : (Int16.ofInt 1001).toInt32 = (1001 : Int32) := by decide
theorem ks_1002 : (Int16.ofInt 1002).toInt32 = (1002 : Int32) := by decide
theorem ks_1023 : (Int16.ofInt 1023).toInt32 = (1023 : Int32) := by decide
theorem ks_1100 : (Int16.ofInt 1100).toInt32 = (1100 : Int32) := by decide
theorem ks_1300 : (Int16.ofInt 1300).toInt32 = (1300 : Int32) := by decide
theorem ks_2640 : (Int16.ofInt 2640).toInt32 = (2640 : Int32) := by decide
theorem ks_6600 : (Int16.ofInt 6600).toInt32 = (6600 : Int32) := by decide
theorem ks_9999 : (Int16.ofInt 9999).toInt32 = (9999 : Int32) := by decide
theorem ks_11999 : (Int16.ofInt 11999).toInt32 = (11999 : Int32) := by decide
theorem ks_12000 : (Int16.ofInt 12000).toInt32 = (12000 : Int32) := by decide
