/-! THE LAW: town and mark -/
set_option maxRecDepth 20000 in
theorem k_X12_town {l : Launch} {g : GG} {pl : Pool} (A : Nat → Nat) {y : YS} {post : Int32 → YS → Prop} (hw : wp_X12_town y.t_tape y.t_words y.t_thrown y.t_taped y.t_size y.t_at y.t_fault y.t_codes y.t_shadeDay y.t_spotsMany y.t_followed y.t_toldMany y.t_place y.t_sort y.t_value y.t_towns y.t_op y.t_arg (fun r w0 w1 w2 w3 w4 w5 w6 w7 w8 w9 w10 w11 w12 w13 w14 w15 => post r (u1 (u1 (u1 (u1 (u1 (u1 (u1 (u1 (u1 (u1 y.1 0 w0) 1 w1) 2 w2) 3 w3) 4 w4) 5 w5) 6 w6) 11 w7) 12 w8) 13 w9, u1 (u1 (u1 (u1 (u1 y.2.1 2 w10) 1 w11) 3 w13) 4 w14) 5 w15, u1 y.2.2 0 w12))) : MI l yX12_town cX12_town 2 (some .int) (rmL 39) g Fz0 [.ref (A 0)] (w12 g A y) pl (fun r (u : Int32 × Int32 × Int32 × Int32 × Int32 × Int32 × Int32 × Int32 × Int32 × Int32 × (Nat → Int32) × (Nat → Int32) × (Nat → Int64) × (Nat → Int32) × (Nat → Int32) × (Nat → Int32)) => post r (u1 (u1 (u1 (u1 (u1 (u1 (u1 (u1 (u1 (u1 y.1 0 u.1) 1 u.2.1) 2 u.2.2.1) 3 u.2.2.2.1) 4 u.2.2.2.2.1) 5 u.2.2.2.2.2.1) 6 u.2.2.2.2.2.2.1) 11 u.2.2.2.2.2.2.2.1) 12 u.2.2.2.2.2.2.2.2.1) 13 u.2.2.2.2.2.2.2.2.2.1, u1 (u1 (u1 (u1 (u1 y.2.1 2 u.2.2.2.2.2.2.2.2.2.2.1) 1 u.2.2.2.2.2.2.2.2.2.2.2.1) 3 u.2.2.2.2.2.2.2.2.2.2.2.2.2.1) 4 u.2.2.2.2.2.2.2.2.2.2.2.2.2.2.1) 5 u.2.2.2.2.2.2.2.2.2.2.2.2.2.2.2, u1 y.2.2 0 u.2.2.2.2.2.2.2.2.2.2.2.2.1)) (fun u => w12 g A (u1 (u1 (u1 (u1 (u1 (u1 (u1 (u1 (u1 (u1 y.1 0 u.1) 1 u.2.1) 2 u.2.2.1) 3 u.2.2.2.1) 4 u.2.2.2.2.1) 5 u.2.2.2.2.2.1) 6 u.2.2.2.2.2.2.1) 11 u.2.2.2.2.2.2.2.1) 12 u.2.2.2.2.2.2.2.2.1) 13 u.2.2.2.2.2.2.2.2.2.1, u1 (u1 (u1 (u1 (u1 y.2.1 2 u.2.2.2.2.2.2.2.2.2.2.1) 1 u.2.2.2.2.2.2.2.2.2.2.2.1) 3 u.2.2.2.2.2.2.2.2.2.2.2.2.2.1) 4 u.2.2.2.2.2.2.2.2.2.2.2.2.2.2.1) 5 u.2.2.2.2.2.2.2.2.2.2.2.2.2.2.2, u1 y.2.2 0 u.2.2.2.2.2.2.2.2.2.2.2.2.1)) (fun _ => pl) 0 0 := by
  exact MI_lift (rest := [(A 9, aI g 2 y.t_facts), (A 10, aI g 1100 y.t_pile), (A 11, aI g 12000 y.t_sun), (A 12, aZ g 12000 y.t_isShut), (A 13, aI g 100 y.t_sunny), (A 14, aI g 12000 y.t_cost), (A 15, aI g 12000 y.t_leastCost), (A 16, aI g 12000 y.t_leastEnd), (A 17, aI g 120 y.t_wayOf), (A 18, aI g 120 y.t_whereAt), (A 19, aI g 12000 y.t_reach), (A 20, aJ g 1300 y.t_likely), (A 21, aI g 960 y.t_crowdAt), (A 22, aI g 8 y.t_crowdBy), (A 23, aI g 8 y.t_spotAt), (A 24, aI g 30 y.t_followOf), (A 25, aI g 60 y.t_toldOf), (A 26, aI g 100 y.t_stepsTo), (A 27, aI g 12000 y.t_reachOne), (A 28, aZ g 4 y.t_isMarked), (A 29, aI g 404 y.t_markOf)]) [0, 1, 3, 2, 4, 6, 5, 7, 8] [9, 10, 11, 12, 13, 14, 15, 16, 17, 18, 19, 20, 21, 22, 23, 24, 25, 26, 27, 28, 29] (m := 30) (by decide +kernel) (by rfl) (by rfl) (fun _ => by rfl) (fun _ => by rfl) (by rfl) (fun _ => by rfl) (c_X12_town (A 0) (A 1) (A 3) (A 2) (A 4) (A 6) (A 5) (A 7) (A 8) (.ref (A 9)) (.ref (A 10)) (.ref (A 11)) (.ref (A 12)) (.ref (A 13)) (.ref (A 14)) (.ref (A 15)) (.ref (A 16)) (.ref (A 17)) (.int y.t_wayMany) (.ref (A 18)) (.ref (A 19)) (.ref (A 20)) (.ref (A 21)) (.ref (A 22)) (.int y.t_crowdRounds) (.int y.t_bestSquare) (.int y.t_bestBy) (.ref (A 23)) (.ref (A 24)) (.ref (A 25)) (.ref (A 26)) (.ref (A 27)) (.ref (A 28)) (.ref (A 29)) hw)
section XG
variable {X : Ctx} {cc : ByteArray} {nL k n : Nat} {own : String} {rm : Room} {Fz : (Nat → Prop) → State → Prop} {ws : va_W} {pl : Pool} {lo : List (Option Value)} {st : List Value} {pc : Nat}
variable {y : MethodName} {cy : ByteArray} {ny nA idx mc ms : Nat} {ry : Option FieldType} {rmy : Room} {Fz' : (Nat → Prop) → State → Prop} {As : List Value} {S : Type} {Wf : S → va_W} {Pf : S → Pool} {st0 : List Value} {b : Nat}
/-- a call that sees the whole world and the whole pool -/
theorem a_xVg (C : Cok X cc nL own rm Fz) {post : Int32 → S → Prop} (hM : MI (cxL X) y cy ny ry rmy (cxG X) Fz' (.ref b :: As) ws pl post Wf Pf mc ms) (hd : decode cc pc = .ok (.invokevirtual idx, 3)) (hm : MthV y cy ny ry nA) (hlk : Cond.methodLink own idx y ∈ tb) (hFz : ∀ A U, Fz A U → Fz' A U) (hFo : FzOk Fz') (hrm : RmOk rmy rm ny mc ms k n) (hst : (st.map fun v => v.category).sum ≤ 8) (hlen : As.length = nA) (hs : As.reverse ++ .ref b :: st = st0) {ci : Nat} {T : u_T} {N : Nat} (hci : vwCl[ci]? = some (y.cls, T, N)) (hrec : ∃ (i : Nat) (fs : List Value), ws[i]? = some (b, .inr (ci, fs))) (kk : ∀ (r : Int32) (u : S), post r u → AW X nL (k + mc) (n + ms) (Wf u) (Pf u) (pc + 3) lo (.int r :: st)) : AW X nL k n ws pl pc lo st0 := by
  obtain ⟨p, l, e, R, s, m, args, below, meth, c, g, A, Q⟩ := X
  obtain ⟨hx, hb, hml, hown, hts, hK, hA, hR, hF⟩ := C
  subst hR
  intro H locs ls hP hD hS hl
  subst hs
  obtain ⟨r1, r2, r3, r4, r5, r6⟩ := hrm
  have hFr := fr_all hD hS hA
  have hU := pre_all (.ref b :: As) hK hP hD hS hA hF hFz hFo
  obtain ⟨m1, m2, m3, m4, m5, m6, m7⟩ := hm
  obtain ⟨i0, fs0, h0⟩ := hrec
  have hrv := va_recv hK hP hci (ap_l h0)
  have cb := callB_of (Ts := tb) (R := R) nA hts (gd_tb (fun _ h => h) m4) rfl r1 r2 (hts _ m3) (hts _ hlk) ⟨m5, m6, m7⟩ ⟨r3, r4⟩
  have hr := va_runV (l := l) (e := e) (below := below) (meth := meth) (locs := locs) (cells := k) (slots := n) (g := F0 m pc ls (As.reverse ++ .ref b :: st)) (As := As) (rest := st) ⟨hx, hb, hml, hown, hts⟩ (hM H.size) ⟨cb, hts _ m1, hts _ m2⟩ ⟨gPc_blind hFo, hrv, hU⟩ rfl hlen hl.1 rfl (lv_room hst) hd ⟨r5, r6⟩
  refine va_calli hr hS (fun q _ h => hFr q h) hFr (fun r u t H1 locs1 ht hvm hw hB hz hk hS' => ?_)
  exact kk r u hw H1 locs1 ls (by rw [← ht]; exact hB.1) (hB.2.weaken (fun k q hk hq => hFr _ hq)) hS' hl
end XG
theorem pw5 {α : Type} (a b c : List α) : ((a ++ b) ++ c).Perm ((b ++ a) ++ c) := List.perm_append_comm.append_right c
theorem pw6 {α : Type} (a b c d e : List α) : ((a ++ (b ++ (c ++ d))) ++ e).Perm ((a ++ c) ++ (b ++ (d ++ e))) := by
  rw [List.append_assoc, List.append_assoc a c, List.append_assoc b, List.append_assoc c]
  exact (sw3 b c (d ++ e)).append_left a
theorem rmLt {a ny k n c m : Nat} (h : a ≤ 100) (hn : ny ≤ 60) (hc : c ≤ 1001) (hm : m ≤ 6006) (hk : k + 1001 ≤ 601024) (hs : n + 6006 ≤ 7293033) : RmOk (rmL a) room_1 ny 0 0 (k + c) (n + m) := ⟨rfl, rfl, by show a + 1 ≤ 2048; omega, by show 8 + (ny + 11) + 60 * a ≤ 84000; omega, by show k + c + 0 ≤ 601024; omega, by show n + m + 0 ≤ 7293033; omega⟩
set_option maxRecDepth 20000 in
theorem lc_town {X : Ctx} {ka : KA} {b L : Nat} {xs : Nat → Int32} (C : Cok X cL_law 8 RL room_1 (FzL ka b L xs)) {k n : Nat} (hk : k + 1001 ≤ 601024) (hn : n + 6006 ≤ 7293033) {i : Int32} (hi : 0 ≤ i.toInt ∧ i.toInt + 10 ≤ L ∧ L ≤ 5120) {A B : Nat → Nat} {x : XS} {y : YS} {M : MK} {o : Nat} {f : Nat → Int64} {pl : Pool} {post : (Nat → Nat) → XS → YS → Pool → Prop} (hw : s1_town A x y pl post) (kk : ∀ A1 x y pl, A1 0 = A 0 → post A1 x y pl → AW X 8 (k + 1001) (n + 6006) (WL (cxG X) A1 x B y M o f) pl 3322 [some (.ref b), some (.ref (A 0)), some (.ref (B 0)), some (.ref o), some (.int i), none, none, none] []) : AW X 8 k n (WL (cxG X) A x B y M o f) pl 359 [some (.ref b), some (.ref (A 0)), some (.ref (B 0)), some (.ref o), some (.int i), none, none, none] [] := by
  refine a_aload_n (pc := 359) (i := 1) C dL_law_359 rfl rfl ?_
  refine a_perm (pw5 _ _ _) ?_
  refine a_xViF (pc := 360) (As := []) (st := []) C (c_X11_town (ka := ka) A hw) dL_law_360 mth_X11_town tml_L_64 (fun _ _ h => h.1) (FzW_ok ka) (rmCw (Nat.le_of_ble_eq_true rfl) (Nat.le_of_ble_eq_true rfl) (Nat.le_of_ble_eq_true rfl) (Nat.le_of_ble_eq_true rfl) hk hn) (Nat.le_of_ble_eq_true rfl) rfl rfl (ci := 11) rfl ⟨0, _, rfl⟩ (m := 82) (fun _ => rfl) (fun r u hw => ?_)
  obtain ⟨A1, x1, pl1⟩ := u
  dsimp only at hw
  obtain ⟨hA, hw⟩ := hw
  refine a_perm (ws' := WL (cxG X) A1 x1 B y M o f) (pl' := pl1) (pw5 _ _ _).symm ?_
  show AW X 8 (k + 1001) (n + 6006) (WL (cxG X) A1 x1 B y M o f) pl1 363 [some (.ref b), some (.ref (A 0)), some (.ref (B 0)), some (.ref o), some (.int i), none, none, none] [.int r]
  refine a_aload_n (pc := 363) (i := 2) C dL_law_363 rfl rfl ?_
  refine a_perm (pw2 _ _ _ _) ?_
  refine a_xVi (pc := 364) (As := []) (st := [.int r]) C (k_X12_town (post := fun r2 y => r = r2 ∧ post A1 x1 y pl1) B hw) dL_law_364 mth_X12_town tml_L_68 (fun _ _ _ => trivial) Fz0_ok (rmLt (Nat.le_of_ble_eq_true rfl) (Nat.le_of_ble_eq_true rfl) (Nat.le_of_ble_eq_true rfl) (Nat.le_of_ble_eq_true rfl) hk hn) (Nat.le_of_ble_eq_true rfl) rfl rfl (ci := 12) rfl ⟨0, _, rfl⟩ (m := 30) (fun _ => rfl) (fun r2 u hw => ?_)
  refine a_perm (ws' := WL (cxG X) A1 x1 B (u1 (u1 (u1 (u1 (u1 (u1 (u1 (u1 (u1 (u1 y.1 0 u.1) 1 u.2.1) 2 u.2.2.1) 3 u.2.2.2.1) 4 u.2.2.2.2.1) 5 u.2.2.2.2.2.1) 6 u.2.2.2.2.2.2.1) 11 u.2.2.2.2.2.2.2.1) 12 u.2.2.2.2.2.2.2.2.1) 13 u.2.2.2.2.2.2.2.2.2.1, u1 (u1 (u1 (u1 (u1 y.2.1 2 u.2.2.2.2.2.2.2.2.2.2.1) 1 u.2.2.2.2.2.2.2.2.2.2.2.1) 3 u.2.2.2.2.2.2.2.2.2.2.2.2.2.1) 4 u.2.2.2.2.2.2.2.2.2.2.2.2.2.2.1) 5 u.2.2.2.2.2.2.2.2.2.2.2.2.2.2.2, u1 y.2.2 0 u.2.2.2.2.2.2.2.2.2.2.2.2.1) M o f) (pl' := pl1) (pw2 _ _ _ _).symm ?_
  generalize ((u1 (u1 (u1 (u1 (u1 (u1 (u1 (u1 (u1 (u1 y.1 0 u.1) 1 u.2.1) 2 u.2.2.1) 3 u.2.2.2.1) 4 u.2.2.2.2.1) 5 u.2.2.2.2.2.1) 6 u.2.2.2.2.2.2.1) 11 u.2.2.2.2.2.2.2.1) 12 u.2.2.2.2.2.2.2.2.1) 13 u.2.2.2.2.2.2.2.2.2.1, u1 (u1 (u1 (u1 (u1 y.2.1 2 u.2.2.2.2.2.2.2.2.2.2.1) 1 u.2.2.2.2.2.2.2.2.2.2.2.1) 3 u.2.2.2.2.2.2.2.2.2.2.2.2.2.1) 4 u.2.2.2.2.2.2.2.2.2.2.2.2.2.2.1) 5 u.2.2.2.2.2.2.2.2.2.2.2.2.2.2.2, u1 y.2.2 0 u.2.2.2.2.2.2.2.2.2.2.2.2.1) : YS) = y1 at hw ⊢
  refine a_icmp_eq (pc := 367) (tgt := 3322) C dL_law_367 (by decide) (fun _ => ?_) (fun c => absurd hw.1 c)
  exact kk _ _ _ _ hA hw.2
set_option maxRecDepth 20000 in
theorem lc_mark {X : Ctx} {ka : KA} {b L : Nat} {xs : Nat → Int32} (C : Cok X cL_law 8 RL room_1 (FzL ka b L xs)) {k n : Nat} (hk : k + 1001 ≤ 601024) (hn : n + 6006 ≤ 7293033) {i : Int32} (hi : 0 ≤ i.toInt ∧ i.toInt + 10 ≤ L ∧ L ≤ 5120) {A B : Nat → Nat} {x : XS} {y : YS} {M : MK} {o : Nat} {f : Nat → Int64} {pl : Pool} (hM : ∀ k, k < 4 → XS.t_marks x k = (M k).map (fun p => p.1 0)) {post : XS → MK → YS → Prop} (hw : ∀ pl' : Pool, (∀ z ∈ pl, z ∈ pl') → s1_mark pl' x M y (xs (Int32.toNatClampNeg (i + 1))) (bz (xs (Int32.toNatClampNeg (i + 2)))) post) (kk : ∀ x M y, post x M y → AW X 8 (k + 1001) (n + 6006) (WL (cxG X) A x B y M o f) pl 3322 [some (.ref b), some (.ref (A 0)), some (.ref (B 0)), some (.ref o), some (.int i), none, none, none] []) : AW X 8 k n (WL (cxG X) A x B y M o f) pl 3244 [some (.ref b), some (.ref (A 0)), some (.ref (B 0)), some (.ref o), some (.int i), none, none, none] [] := by
  refine a_aload_n (pc := 3244) (i := 1) C dL_law_3244 rfl rfl ?_
  refine a_aload_n (pc := 3245) (i := 0) C dL_law_3245 rfl rfl ?_
  refine a_iload (pc := 3246) (i := 4) C dL_law_3246 rfl ?_
  refine a_iconst (pc := 3248) (v := 1) C dL_law_3248 rfl ?_
  refine a_iadd (pc := 3249) C dL_law_3249 ?_
  refine a_sld (pc := 3250) C dL_law_3250 (in_arg hi (by decide)) ?_
  refine a_aload_n (pc := 3251) (i := 0) C dL_law_3251 rfl rfl ?_
  refine a_iload (pc := 3252) (i := 4) C dL_law_3252 rfl ?_
  refine a_iconst (pc := 3254) (v := 2) C dL_law_3254 rfl ?_
  refine a_iadd (pc := 3255) C dL_law_3255 ?_
  refine a_sld (pc := 3256) C dL_law_3256 (in_arg hi (by decide)) ?_
  refine a_bz (pc := 3257) C dL_law_3257 dL_law_3260 dL_law_3261 dL_law_3264 ?_
  refine a_perm (pw6 _ _ _ _ _) ?_
  refine a_xVg (pc := 3265) (As := [.int (xs (Int32.toNatClampNeg (i + 1))), .int (bz (xs (Int32.toNatClampNeg (i + 2))))]) (st := []) C (c_X11_mark (ka := ka) (post := fun r x1 M1 => s2_mark r x1 M1 y (xs (Int32.toNatClampNeg (i + 1))) (bz (xs (Int32.toNatClampNeg (i + 2)))) post) A hM (hw _ in_deep)) dL_law_3265 mth_X11_mark tml_L_215 (fun _ _ h => h.1) (FzW_ok ka) (rmCw (Nat.le_of_ble_eq_true rfl) (Nat.le_of_ble_eq_true rfl) (Nat.le_of_ble_eq_true rfl) (Nat.le_of_ble_eq_true rfl) hk hn) (Nat.le_of_ble_eq_true rfl) rfl rfl (ci := 11) rfl ⟨0, _, rfl⟩ (fun r u hw => ?_)
  replace hw := hw.2
  obtain ⟨x1, M1⟩ := u
  dsimp only at hw
  refine a_perm (ws' := WL (cxG X) A x1 B y M1 o f) (pl' := pl) (pw6 _ _ _ _ _).symm ?_
  show AW X 8 (k + 17) (n + 2273) (WL (cxG X) A x1 B y M1 o f) pl 3268 [some (.ref b), some (.ref (A 0)), some (.ref (B 0)), some (.ref o), some (.int i), none, none, none] [.int r]
  refine a_aload_n (pc := 3268) (i := 2) C dL_law_3268 rfl rfl ?_
  refine a_aload_n (pc := 3269) (i := 0) C dL_law_3269 rfl rfl ?_
  refine a_iload (pc := 3270) (i := 4) C dL_law_3270 rfl ?_
  refine a_iconst (pc := 3272) (v := 1) C dL_law_3272 rfl ?_
  refine a_iadd (pc := 3273) C dL_law_3273 ?_
  refine a_sld (pc := 3274) C dL_law_3274 (in_arg hi (by decide)) ?_
  refine a_aload_n (pc := 3275) (i := 0) C dL_law_3275 rfl rfl ?_
  refine a_iload (pc := 3276) (i := 4) C dL_law_3276 rfl ?_
  refine a_iconst (pc := 3278) (v := 2) C dL_law_3278 rfl ?_
  refine a_iadd (pc := 3279) C dL_law_3279 ?_
  refine a_sld (pc := 3280) C dL_law_3280 (in_arg hi (by decide)) ?_
  refine a_bz (pc := 3281) C dL_law_3281 dL_law_3284 dL_law_3285 dL_law_3288 ?_
  refine a_perm (pw2 _ _ _ _) ?_
  refine a_xVi (pc := 3289) (As := [.int (xs (Int32.toNatClampNeg (i + 1))), .int (bz (xs (Int32.toNatClampNeg (i + 2))))]) (st := [.int r]) C (k_X12_mark (post := fun r2 y => r = r2 ∧ post x1 M1 y) B hw) dL_law_3289 mth_X12_mark tml_L_219 (fun _ _ _ => trivial) Fz0_ok (rmLt (Nat.le_of_ble_eq_true rfl) (Nat.le_of_ble_eq_true rfl) (Nat.le_of_ble_eq_true rfl) (Nat.le_of_ble_eq_true rfl) hk hn) (Nat.le_of_ble_eq_true rfl) rfl rfl (ci := 12) rfl ⟨0, _, rfl⟩ (m := 30) (fun _ => rfl) (fun r2 u hw => ?_)
  replace hw := hw.2
  refine a_perm (ws' := WL (cxG X) A x1 B (u1 (u1 (u1 (u1 (u1 y.1 0 u.1) 6 u.2.1) 11 u.2.2.1) 12 u.2.2.2.1) 13 u.2.2.2.2.1, u1 (u1 (u1 (u1 (u1 (u1 (u1 (u1 y.2.1 24 u.2.2.2.2.2.1) 3 u.2.2.2.2.2.2.1) 4 u.2.2.2.2.2.2.2.1) 5 u.2.2.2.2.2.2.2.2.1) 25 u.2.2.2.2.2.2.2.2.2.1) 19 u.2.2.2.2.2.2.2.2.2.2.1) 20 u.2.2.2.2.2.2.2.2.2.2.2.1) 21 u.2.2.2.2.2.2.2.2.2.2.2.2, y.2.2) M1 o f) (pl' := pl) (pw2 _ _ _ _).symm ?_
  generalize ((u1 (u1 (u1 (u1 (u1 y.1 0 u.1) 6 u.2.1) 11 u.2.2.1) 12 u.2.2.2.1) 13 u.2.2.2.2.1, u1 (u1 (u1 (u1 (u1 (u1 (u1 (u1 y.2.1 24 u.2.2.2.2.2.1) 3 u.2.2.2.2.2.2.1) 4 u.2.2.2.2.2.2.2.1) 5 u.2.2.2.2.2.2.2.2.1) 25 u.2.2.2.2.2.2.2.2.2.1) 19 u.2.2.2.2.2.2.2.2.2.2.1) 20 u.2.2.2.2.2.2.2.2.2.2.2.1) 21 u.2.2.2.2.2.2.2.2.2.2.2.2, y.2.2) : YS) = y1 at hw ⊢
  refine a_icmp_eq (pc := 3292) (tgt := 3322) C dL_law_3292 (by decide) (fun _ => ?_) (fun c => absurd hw.1 c)
  exact a_widen (by omega) (by omega) (kk _ _ _ hw.2)
