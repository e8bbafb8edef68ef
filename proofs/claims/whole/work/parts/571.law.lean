/-! THE LAW: its rules, its worlds -/
def FzL (ka : KA) (b L : Nat) (xs : Nat → Int32) (A : Nat → Prop) (U : State) : Prop := FzW ka A U ∧ va_X b L xs U U.heap ∧ b < U.heap.size ∧ ¬ A b
def WL (g : GG) (A : Nat → Nat) (x : XS) (B : Nat → Nat) (y : YS) (M : MK) (o : Nat) (f : Nat → Int64) : va_W := w11 g A x ++ (w12 g B y ++ (mkW g M ++ [(o, aJ g 1 f)]))
def bz (x : Int32) : Int32 := if x = 0 then 0 else 1
section LR
variable {X : Ctx} {cc : ByteArray} {nL k n : Nat} {own : String} {rm : Room} {ka : KA} {b L : Nat} {xs : Nat → Int32} {ws : va_W} {pl : Pool} {lo : List (Option Value)} {st : List Value} {pc : Nat}
theorem a_sld (C : Cok X cc nL own rm (FzL ka b L xs)) {i : Int32} (hd : decode cc pc = .ok (.iaload, 1)) (hin : vp_in i L) (kk : AW X nL k n ws pl (pc + 1) lo (.int (xs i.toNatClampNeg) :: st)) : AW X nL k n ws pl pc lo (.int i :: .ref b :: st) := by
  obtain ⟨p, l, e, R, s, m, args, below, meth, c, g, A, Q⟩ := X
  obtain ⟨hx, hb, hml, hown, hts, hK, hA, hR, hF, hX, hbl, hbA⟩ := C
  intro H locs ls hP hD hS hl
  exact va_sld hx hb hX hbl hbA hS hin hd (kk H locs ls hP hD hS hl)
theorem a_slen (C : Cok X cc nL own rm (FzL ka b L xs)) (hd : decode cc pc = .ok (.arraylength, 1)) (kk : AW X nL k n ws pl (pc + 1) lo (.int (nI L) :: st)) : AW X nL k n ws pl pc lo (.ref b :: st) := by
  obtain ⟨p, l, e, R, s, m, args, below, meth, c, g, A, Q⟩ := X
  obtain ⟨hx, hb, hml, hown, hts, hK, hA, hR, hF, hX, hbl, hbA⟩ := C
  intro H locs ls hP hD hS hl
  exact va_slen hx hb hX hbl hbA hS hd (kk H locs ls hP hD hS hl)
theorem a_bz {Fz : (Nat → Prop) → State → Prop} (C : Cok X cc nL own rm Fz) {x : Int32} (d0 : decode cc pc = .ok (.ifCond .eq 7, 3)) (d3 : decode cc (pc + 3) = .ok (.iconst 1, 1)) (d4 : decode cc (pc + 4) = .ok (.goto 4, 3)) (d7 : decode cc (pc + 7) = .ok (.iconst 0, 1)) (kk : AW X nL k n ws pl (pc + 8) lo (.int (bz x) :: st)) : AW X nL k n ws pl pc lo (.int x :: st) := by
  refine a_if_eq (tgt := pc + 7) C d0 (by omega) (fun c => ?_) (fun c => ?_)
  · refine a_iconst (v := 0) C d7 rfl ?_
    rw [bz, if_pos c] at kk
    exact kk
  · refine a_iconst (v := 1) C d3 rfl ?_
    refine a_goto (tgt := pc + 8) C d4 (by omega) ?_
    rw [bz, if_neg c] at kk
    exact kk
end LR
theorem rmLw {a ny k n : Nat} (h : a ≤ 100) (hn : ny ≤ 60) (hk : k + 1001 ≤ 601024) (hs : n + 6006 ≤ 7293033) : RmOk (rmL a) room_1 ny 0 0 k n := ⟨rfl, rfl, by show a + 1 ≤ 2048; omega, by show 8 + (ny + 11) + 60 * a ≤ 84000; omega, by show k + 0 ≤ 601024; omega, by show n + 0 ≤ 7293033; omega⟩
theorem rmCw {a ny c m k n : Nat} (h : a ≤ 100) (hn : ny ≤ 60) (hc : c ≤ 1001) (hm : m ≤ 6006) (hk : k + 1001 ≤ 601024) (hs : n + 6006 ≤ 7293033) : RmOk (rmC a c m) room_1 ny c m k n := ⟨rfl, rfl, by show a + 1 ≤ 2048; omega, by show 8 + (ny + 11) + 60 * a ≤ 84000; omega, by show k + c ≤ 601024; omega, by show n + m ≤ 7293033; omega⟩
theorem rmXw {ny k n : Nat} (hn : ny ≤ 60) (hk : k + 1001 ≤ 601024) (hs : n + 6006 ≤ 7293033) : RmOk (rmX 8) room_1 ny 1 6 k n := ⟨rfl, rfl, by show 8 + 1 ≤ 2048; omega, by show 8 + (ny + 11) + 60 * 8 ≤ 84000; omega, by show k + 1 ≤ 601024; omega, by show n + 6 ≤ 7293033; omega⟩
theorem in_arg {i k : Int32} {L : Nat} (h : 0 ≤ i.toInt ∧ i.toInt + 10 ≤ L ∧ L ≤ 5120) (hk : 0 ≤ k.toInt ∧ k.toInt < 10) : vp_in (i + k) L := by
  rw [vp_in_iff, Int32.toInt_add]
  have e : (i.toInt + k.toInt).bmod (2 ^ 32) = i.toInt + k.toInt := by
    refine Int.bmod_eq_of_le ?_ ?_ <;> simp <;> omega
  rw [e]
  omega
theorem pw1 {α : Type} (a b c : List α) : ((a ++ b) ++ c).Perm (a ++ (b ++ c)) := by rw [List.append_assoc]
theorem pw2 {α : Type} (a b c d : List α) : ((a ++ (b ++ c)) ++ d).Perm (b ++ (a ++ (c ++ d))) := by
  rw [List.append_assoc, List.append_assoc]
  exact sw3 _ _ _
theorem in_deep {a b c : Pool} : ∀ z ∈ c, z ∈ a ++ (b ++ c) := fun z h => List.mem_append_right a (List.mem_append_right b h)
set_option maxRecDepth 20000 in
theorem lc_feed {X : Ctx} {ka : KA} {b L : Nat} {xs : Nat → Int32} (C : Cok X cL_law 8 RL room_1 (FzL ka b L xs)) {k n : Nat} (hk : k + 1001 ≤ 601024) (hn : n + 6006 ≤ 7293033) {i : Int32} (hi : 0 ≤ i.toInt ∧ i.toInt + 10 ≤ L ∧ L ≤ 5120) {A B : Nat → Nat} {x : XS} {y : YS} {M : MK} {o : Nat} {f : Nat → Int64} {pl : Pool} {post : XS → YS → Prop} (hw : s1_feed pl x y (((Int32.toInt64 (xs (Int32.toNatClampNeg (i + 1)))) <<< (Int32.toInt64 32 &&& 63)) ||| ((Int32.toInt64 (xs (Int32.toNatClampNeg (i + 2)))) &&& 4294967295)) (((Int32.toInt64 (xs (Int32.toNatClampNeg (i + 3)))) <<< (Int32.toInt64 32 &&& 63)) ||| ((Int32.toInt64 (xs (Int32.toNatClampNeg (i + 4)))) &&& 4294967295)) (((Int32.toInt64 (xs (Int32.toNatClampNeg (i + 5)))) <<< (Int32.toInt64 32 &&& 63)) ||| ((Int32.toInt64 (xs (Int32.toNatClampNeg (i + 6)))) &&& 4294967295)) post) (kk : ∀ x y, post x y → AW X 8 (k + 1001) (n + 6006) (WL (cxG X) A x B y M o f) pl 3322 [some (.ref b), some (.ref (A 0)), some (.ref (B 0)), some (.ref o), some (.int i), none, none, none] []) : AW X 8 k n (WL (cxG X) A x B y M o f) pl 212 [some (.ref b), some (.ref (A 0)), some (.ref (B 0)), some (.ref o), some (.int i), none, none, none] [] := by
  refine a_aload_n (pc := 212) (i := 1) C dL_law_212 rfl rfl ?_
  refine a_aload_n (pc := 213) (i := 0) C dL_law_213 rfl rfl ?_
  refine a_iload (pc := 214) (i := 4) C dL_law_214 rfl ?_
  refine a_iconst (pc := 216) (v := 1) C dL_law_216 rfl ?_
  refine a_iadd (pc := 217) C dL_law_217 ?_
  refine a_sld (pc := 218) C dL_law_218 (in_arg hi (by decide)) ?_
  refine a_i2l (pc := 219) C dL_law_219 ?_
  refine a_bipush (pc := 220) (v := 32) C dL_law_220 rfl ?_
  refine a_lshl (pc := 222) C dL_law_222 ?_
  refine a_aload_n (pc := 223) (i := 0) C dL_law_223 rfl rfl ?_
  refine a_iload (pc := 224) (i := 4) C dL_law_224 rfl ?_
  refine a_iconst (pc := 226) (v := 2) C dL_law_226 rfl ?_
  refine a_iadd (pc := 227) C dL_law_227 ?_
  refine a_sld (pc := 228) C dL_law_228 (in_arg hi (by decide)) ?_
  refine a_i2l (pc := 229) C dL_law_229 ?_
  refine a_ldc2 (pc := 230) C dL_law_230 tk_L_57 ?_
  refine a_land (pc := 233) C dL_law_233 ?_
  refine a_lor (pc := 234) C dL_law_234 ?_
  refine a_aload_n (pc := 235) (i := 0) C dL_law_235 rfl rfl ?_
  refine a_iload (pc := 236) (i := 4) C dL_law_236 rfl ?_
  refine a_iconst (pc := 238) (v := 3) C dL_law_238 rfl ?_
  refine a_iadd (pc := 239) C dL_law_239 ?_
  refine a_sld (pc := 240) C dL_law_240 (in_arg hi (by decide)) ?_
  refine a_i2l (pc := 241) C dL_law_241 ?_
  refine a_bipush (pc := 242) (v := 32) C dL_law_242 rfl ?_
  refine a_lshl (pc := 244) C dL_law_244 ?_
  refine a_aload_n (pc := 245) (i := 0) C dL_law_245 rfl rfl ?_
  refine a_iload (pc := 246) (i := 4) C dL_law_246 rfl ?_
  refine a_iconst (pc := 248) (v := 4) C dL_law_248 rfl ?_
  refine a_iadd (pc := 249) C dL_law_249 ?_
  refine a_sld (pc := 250) C dL_law_250 (in_arg hi (by decide)) ?_
  refine a_i2l (pc := 251) C dL_law_251 ?_
  refine a_ldc2 (pc := 252) C dL_law_252 tk_L_57 ?_
  refine a_land (pc := 255) C dL_law_255 ?_
  refine a_lor (pc := 256) C dL_law_256 ?_
  refine a_aload_n (pc := 257) (i := 0) C dL_law_257 rfl rfl ?_
  refine a_iload (pc := 258) (i := 4) C dL_law_258 rfl ?_
  refine a_iconst (pc := 260) (v := 5) C dL_law_260 rfl ?_
  refine a_iadd (pc := 261) C dL_law_261 ?_
  refine a_sld (pc := 262) C dL_law_262 (in_arg hi (by decide)) ?_
  refine a_i2l (pc := 263) C dL_law_263 ?_
  refine a_bipush (pc := 264) (v := 32) C dL_law_264 rfl ?_
  refine a_lshl (pc := 266) C dL_law_266 ?_
  refine a_aload_n (pc := 267) (i := 0) C dL_law_267 rfl rfl ?_
  refine a_iload (pc := 268) (i := 4) C dL_law_268 rfl ?_
  refine a_bipush (pc := 270) (v := 6) C dL_law_270 rfl ?_
  refine a_iadd (pc := 272) C dL_law_272 ?_
  refine a_sld (pc := 273) C dL_law_273 (in_arg hi (by decide)) ?_
  refine a_i2l (pc := 274) C dL_law_274 ?_
  refine a_ldc2 (pc := 275) C dL_law_275 tk_L_57 ?_
  refine a_land (pc := 278) C dL_law_278 ?_
  refine a_lor (pc := 279) C dL_law_279 ?_
  refine a_perm (pw1 _ _ _) ?_
  refine a_xVi (pc := 280) (As := [.long (((Int32.toInt64 (xs (Int32.toNatClampNeg (i + 1)))) <<< (Int32.toInt64 32 &&& 63)) ||| ((Int32.toInt64 (xs (Int32.toNatClampNeg (i + 2)))) &&& 4294967295)), .long (((Int32.toInt64 (xs (Int32.toNatClampNeg (i + 3)))) <<< (Int32.toInt64 32 &&& 63)) ||| ((Int32.toInt64 (xs (Int32.toNatClampNeg (i + 4)))) &&& 4294967295)), .long (((Int32.toInt64 (xs (Int32.toNatClampNeg (i + 5)))) <<< (Int32.toInt64 32 &&& 63)) ||| ((Int32.toInt64 (xs (Int32.toNatClampNeg (i + 6)))) &&& 4294967295))]) (st := []) C (k_X11_feed (post := fun r x => s2_feed r x y (((Int32.toInt64 (xs (Int32.toNatClampNeg (i + 1)))) <<< (Int32.toInt64 32 &&& 63)) ||| ((Int32.toInt64 (xs (Int32.toNatClampNeg (i + 2)))) &&& 4294967295)) (((Int32.toInt64 (xs (Int32.toNatClampNeg (i + 3)))) <<< (Int32.toInt64 32 &&& 63)) ||| ((Int32.toInt64 (xs (Int32.toNatClampNeg (i + 4)))) &&& 4294967295)) (((Int32.toInt64 (xs (Int32.toNatClampNeg (i + 5)))) <<< (Int32.toInt64 32 &&& 63)) ||| ((Int32.toInt64 (xs (Int32.toNatClampNeg (i + 6)))) &&& 4294967295)) post) A (hw)) dL_law_280 mth_X11_feed tml_L_59 (fun _ _ _ => trivial) Fz0_ok (rmLw (Nat.le_of_ble_eq_true rfl) (Nat.le_of_ble_eq_true rfl) hk hn) (Nat.le_of_ble_eq_true rfl) rfl rfl (ci := 11) rfl ⟨0, _, rfl⟩ (m := 82) (fun _ => rfl) (fun r u hw => ?_)
  generalize ((u1 x.1 22 u.1, u1 x.2.1 10 u.2, x.2.2.1, x.2.2.2.1, x.2.2.2.2.1, x.2.2.2.2.2.1, x.2.2.2.2.2.2) : XS) = x1 at hw ⊢
  refine a_perm (ws' := WL (cxG X) A x1 B y M o f) (pl' := pl) (pw1 _ _ _).symm ?_
  show AW X 8 k n (WL (cxG X) A x1 B y M o f) pl 283 [some (.ref b), some (.ref (A 0)), some (.ref (B 0)), some (.ref o), some (.int i), none, none, none] [.int r]
  refine a_aload_n (pc := 283) (i := 2) C dL_law_283 rfl rfl ?_
  refine a_aload_n (pc := 284) (i := 0) C dL_law_284 rfl rfl ?_
  refine a_iload (pc := 285) (i := 4) C dL_law_285 rfl ?_
  refine a_iconst (pc := 287) (v := 1) C dL_law_287 rfl ?_
  refine a_iadd (pc := 288) C dL_law_288 ?_
  refine a_sld (pc := 289) C dL_law_289 (in_arg hi (by decide)) ?_
  refine a_i2l (pc := 290) C dL_law_290 ?_
  refine a_bipush (pc := 291) (v := 32) C dL_law_291 rfl ?_
  refine a_lshl (pc := 293) C dL_law_293 ?_
  refine a_aload_n (pc := 294) (i := 0) C dL_law_294 rfl rfl ?_
  refine a_iload (pc := 295) (i := 4) C dL_law_295 rfl ?_
  refine a_iconst (pc := 297) (v := 2) C dL_law_297 rfl ?_
  refine a_iadd (pc := 298) C dL_law_298 ?_
  refine a_sld (pc := 299) C dL_law_299 (in_arg hi (by decide)) ?_
  refine a_i2l (pc := 300) C dL_law_300 ?_
  refine a_ldc2 (pc := 301) C dL_law_301 tk_L_57 ?_
  refine a_land (pc := 304) C dL_law_304 ?_
  refine a_lor (pc := 305) C dL_law_305 ?_
  refine a_aload_n (pc := 306) (i := 0) C dL_law_306 rfl rfl ?_
  refine a_iload (pc := 307) (i := 4) C dL_law_307 rfl ?_
  refine a_iconst (pc := 309) (v := 3) C dL_law_309 rfl ?_
  refine a_iadd (pc := 310) C dL_law_310 ?_
  refine a_sld (pc := 311) C dL_law_311 (in_arg hi (by decide)) ?_
  refine a_i2l (pc := 312) C dL_law_312 ?_
  refine a_bipush (pc := 313) (v := 32) C dL_law_313 rfl ?_
  refine a_lshl (pc := 315) C dL_law_315 ?_
  refine a_aload_n (pc := 316) (i := 0) C dL_law_316 rfl rfl ?_
  refine a_iload (pc := 317) (i := 4) C dL_law_317 rfl ?_
  refine a_iconst (pc := 319) (v := 4) C dL_law_319 rfl ?_
  refine a_iadd (pc := 320) C dL_law_320 ?_
  refine a_sld (pc := 321) C dL_law_321 (in_arg hi (by decide)) ?_
  refine a_i2l (pc := 322) C dL_law_322 ?_
  refine a_ldc2 (pc := 323) C dL_law_323 tk_L_57 ?_
  refine a_land (pc := 326) C dL_law_326 ?_
  refine a_lor (pc := 327) C dL_law_327 ?_
  refine a_aload_n (pc := 328) (i := 0) C dL_law_328 rfl rfl ?_
  refine a_iload (pc := 329) (i := 4) C dL_law_329 rfl ?_
  refine a_iconst (pc := 331) (v := 5) C dL_law_331 rfl ?_
  refine a_iadd (pc := 332) C dL_law_332 ?_
  refine a_sld (pc := 333) C dL_law_333 (in_arg hi (by decide)) ?_
  refine a_i2l (pc := 334) C dL_law_334 ?_
  refine a_bipush (pc := 335) (v := 32) C dL_law_335 rfl ?_
  refine a_lshl (pc := 337) C dL_law_337 ?_
  refine a_aload_n (pc := 338) (i := 0) C dL_law_338 rfl rfl ?_
  refine a_iload (pc := 339) (i := 4) C dL_law_339 rfl ?_
  refine a_bipush (pc := 341) (v := 6) C dL_law_341 rfl ?_
  refine a_iadd (pc := 343) C dL_law_343 ?_
  refine a_sld (pc := 344) C dL_law_344 (in_arg hi (by decide)) ?_
  refine a_i2l (pc := 345) C dL_law_345 ?_
  refine a_ldc2 (pc := 346) C dL_law_346 tk_L_57 ?_
  refine a_land (pc := 349) C dL_law_349 ?_
  refine a_lor (pc := 350) C dL_law_350 ?_
  refine a_perm (pw2 _ _ _ _) ?_
  refine a_xVi (pc := 351) (As := [.long (((Int32.toInt64 (xs (Int32.toNatClampNeg (i + 1)))) <<< (Int32.toInt64 32 &&& 63)) ||| ((Int32.toInt64 (xs (Int32.toNatClampNeg (i + 2)))) &&& 4294967295)), .long (((Int32.toInt64 (xs (Int32.toNatClampNeg (i + 3)))) <<< (Int32.toInt64 32 &&& 63)) ||| ((Int32.toInt64 (xs (Int32.toNatClampNeg (i + 4)))) &&& 4294967295)), .long (((Int32.toInt64 (xs (Int32.toNatClampNeg (i + 5)))) <<< (Int32.toInt64 32 &&& 63)) ||| ((Int32.toInt64 (xs (Int32.toNatClampNeg (i + 6)))) &&& 4294967295))]) (st := [.int r]) C (k_X12_feed (post := fun r2 y => r = r2 ∧ post x1 y) B hw) dL_law_351 mth_X12_feed tml_L_63 (fun _ _ _ => trivial) Fz0_ok (rmLw (Nat.le_of_ble_eq_true rfl) (Nat.le_of_ble_eq_true rfl) hk hn) (Nat.le_of_ble_eq_true rfl) rfl rfl (ci := 12) rfl ⟨0, _, rfl⟩ (m := 30) (fun _ => rfl) (fun r2 u hw => ?_)
  generalize ((u1 (u1 y.1 0 u.1) 1 u.2.1, u1 y.2.1 0 u.2.2, y.2.2) : YS) = y1 at hw ⊢
  refine a_perm (ws' := WL (cxG X) A x1 B y1 M o f) (pl' := pl) (pw2 _ _ _ _).symm ?_
  refine a_icmp_eq (pc := 354) (tgt := 3322) C dL_law_354 (by decide) (fun _ => ?_) (fun c => absurd hw.1 c)
  exact a_widen (by omega) (by omega) (kk _ _ hw.2)
set_option maxRecDepth 20000 in
theorem lc_square {X : Ctx} {ka : KA} {b L : Nat} {xs : Nat → Int32} (C : Cok X cL_law 8 RL room_1 (FzL ka b L xs)) {k n : Nat} (hk : k + 1001 ≤ 601024) (hn : n + 6006 ≤ 7293033) {i : Int32} (hi : 0 ≤ i.toInt ∧ i.toInt + 10 ≤ L ∧ L ≤ 5120) {A B : Nat → Nat} {x : XS} {y : YS} {M : MK} {o : Nat} {f : Nat → Int64} {pl : Pool} {post : XS → YS → Prop} (hw : s1_square pl x y (xs (Int32.toNatClampNeg (i + 1))) (xs (Int32.toNatClampNeg (i + 2))) post) (kk : ∀ x y, post x y → AW X 8 (k + 1001) (n + 6006) (WL (cxG X) A x B y M o f) pl 3322 [some (.ref b), some (.ref (A 0)), some (.ref (B 0)), some (.ref o), some (.int i), none, none, none] []) : AW X 8 k n (WL (cxG X) A x B y M o f) pl 372 [some (.ref b), some (.ref (A 0)), some (.ref (B 0)), some (.ref o), some (.int i), none, none, none] [] := by
  refine a_aload_n (pc := 372) (i := 1) C dL_law_372 rfl rfl ?_
  refine a_aload_n (pc := 373) (i := 0) C dL_law_373 rfl rfl ?_
  refine a_iload (pc := 374) (i := 4) C dL_law_374 rfl ?_
  refine a_iconst (pc := 376) (v := 1) C dL_law_376 rfl ?_
  refine a_iadd (pc := 377) C dL_law_377 ?_
  refine a_sld (pc := 378) C dL_law_378 (in_arg hi (by decide)) ?_
  refine a_aload_n (pc := 379) (i := 0) C dL_law_379 rfl rfl ?_
  refine a_iload (pc := 380) (i := 4) C dL_law_380 rfl ?_
  refine a_iconst (pc := 382) (v := 2) C dL_law_382 rfl ?_
  refine a_iadd (pc := 383) C dL_law_383 ?_
  refine a_sld (pc := 384) C dL_law_384 (in_arg hi (by decide)) ?_
  refine a_perm (pw1 _ _ _) ?_
  refine a_xVi (pc := 385) (As := [.int (xs (Int32.toNatClampNeg (i + 1))), .int (xs (Int32.toNatClampNeg (i + 2)))]) (st := []) C (k_X11_square (post := fun r x => s2_square r x y (xs (Int32.toNatClampNeg (i + 1))) (xs (Int32.toNatClampNeg (i + 2))) post) A (hw)) dL_law_385 mth_X11_square tml_L_69 (fun _ _ _ => trivial) Fz0_ok (rmLw (Nat.le_of_ble_eq_true rfl) (Nat.le_of_ble_eq_true rfl) hk hn) (Nat.le_of_ble_eq_true rfl) rfl rfl (ci := 11) rfl ⟨0, _, rfl⟩ (m := 82) (fun _ => rfl) (fun r u hw => ?_)
  refine a_perm (ws' := WL (cxG X) A x B y M o f) (pl' := pl) (pw1 _ _ _).symm ?_
  show AW X 8 k n (WL (cxG X) A x B y M o f) pl 388 [some (.ref b), some (.ref (A 0)), some (.ref (B 0)), some (.ref o), some (.int i), none, none, none] [.int r]
  refine a_aload_n (pc := 388) (i := 2) C dL_law_388 rfl rfl ?_
  refine a_aload_n (pc := 389) (i := 0) C dL_law_389 rfl rfl ?_
  refine a_iload (pc := 390) (i := 4) C dL_law_390 rfl ?_
  refine a_iconst (pc := 392) (v := 1) C dL_law_392 rfl ?_
  refine a_iadd (pc := 393) C dL_law_393 ?_
  refine a_sld (pc := 394) C dL_law_394 (in_arg hi (by decide)) ?_
  refine a_aload_n (pc := 395) (i := 0) C dL_law_395 rfl rfl ?_
  refine a_iload (pc := 396) (i := 4) C dL_law_396 rfl ?_
  refine a_iconst (pc := 398) (v := 2) C dL_law_398 rfl ?_
  refine a_iadd (pc := 399) C dL_law_399 ?_
  refine a_sld (pc := 400) C dL_law_400 (in_arg hi (by decide)) ?_
  refine a_perm (pw2 _ _ _ _) ?_
  refine a_xVi (pc := 401) (As := [.int (xs (Int32.toNatClampNeg (i + 1))), .int (xs (Int32.toNatClampNeg (i + 2)))]) (st := [.int r]) C (k_X12_square (post := fun r2 y => r = r2 ∧ post x y) B hw) dL_law_401 mth_X12_square tml_L_73 (fun _ _ _ => trivial) Fz0_ok (rmLw (Nat.le_of_ble_eq_true rfl) (Nat.le_of_ble_eq_true rfl) hk hn) (Nat.le_of_ble_eq_true rfl) rfl rfl (ci := 12) rfl ⟨0, _, rfl⟩ (m := 30) (fun _ => rfl) (fun r2 u hw => ?_)
  generalize ((u1 y.1 0 u, y.2.1, y.2.2) : YS) = y1 at hw ⊢
  refine a_perm (ws' := WL (cxG X) A x B y1 M o f) (pl' := pl) (pw2 _ _ _ _).symm ?_
  refine a_icmp_eq (pc := 404) (tgt := 3322) C dL_law_404 (by decide) (fun _ => ?_) (fun c => absurd hw.1 c)
  exact a_widen (by omega) (by omega) (kk _ _ hw.2)
set_option maxRecDepth 20000 in
theorem lc_shade {X : Ctx} {ka : KA} {b L : Nat} {xs : Nat → Int32} (C : Cok X cL_law 8 RL room_1 (FzL ka b L xs)) {k n : Nat} (hk : k + 1001 ≤ 601024) (hn : n + 6006 ≤ 7293033) {i : Int32} (hi : 0 ≤ i.toInt ∧ i.toInt + 10 ≤ L ∧ L ≤ 5120) {A B : Nat → Nat} {x : XS} {y : YS} {M : MK} {o : Nat} {f : Nat → Int64} {pl : Pool} {post : XS → YS → Prop} (hw : s1_shade pl x y (xs (Int32.toNatClampNeg (i + 1))) (xs (Int32.toNatClampNeg (i + 2))) (xs (Int32.toNatClampNeg (i + 3))) post) (kk : ∀ x y, post x y → AW X 8 (k + 1001) (n + 6006) (WL (cxG X) A x B y M o f) pl 3322 [some (.ref b), some (.ref (A 0)), some (.ref (B 0)), some (.ref o), some (.int i), none, none, none] []) : AW X 8 k n (WL (cxG X) A x B y M o f) pl 409 [some (.ref b), some (.ref (A 0)), some (.ref (B 0)), some (.ref o), some (.int i), none, none, none] [] := by
  refine a_aload_n (pc := 409) (i := 1) C dL_law_409 rfl rfl ?_
  refine a_aload_n (pc := 410) (i := 0) C dL_law_410 rfl rfl ?_
  refine a_iload (pc := 411) (i := 4) C dL_law_411 rfl ?_
  refine a_iconst (pc := 413) (v := 1) C dL_law_413 rfl ?_
  refine a_iadd (pc := 414) C dL_law_414 ?_
  refine a_sld (pc := 415) C dL_law_415 (in_arg hi (by decide)) ?_
  refine a_aload_n (pc := 416) (i := 0) C dL_law_416 rfl rfl ?_
  refine a_iload (pc := 417) (i := 4) C dL_law_417 rfl ?_
  refine a_iconst (pc := 419) (v := 2) C dL_law_419 rfl ?_
  refine a_iadd (pc := 420) C dL_law_420 ?_
  refine a_sld (pc := 421) C dL_law_421 (in_arg hi (by decide)) ?_
  refine a_aload_n (pc := 422) (i := 0) C dL_law_422 rfl rfl ?_
  refine a_iload (pc := 423) (i := 4) C dL_law_423 rfl ?_
  refine a_iconst (pc := 425) (v := 3) C dL_law_425 rfl ?_
  refine a_iadd (pc := 426) C dL_law_426 ?_
  refine a_sld (pc := 427) C dL_law_427 (in_arg hi (by decide)) ?_
  refine a_perm (pw1 _ _ _) ?_
  refine a_xVi (pc := 428) (As := [.int (xs (Int32.toNatClampNeg (i + 1))), .int (xs (Int32.toNatClampNeg (i + 2))), .int (xs (Int32.toNatClampNeg (i + 3)))]) (st := []) C (k_X11_shade (post := fun r x => s2_shade r x y (xs (Int32.toNatClampNeg (i + 1))) (xs (Int32.toNatClampNeg (i + 2))) (xs (Int32.toNatClampNeg (i + 3))) post) A (hw)) dL_law_428 mth_X11_shade tml_L_74 (fun _ _ _ => trivial) Fz0_ok (rmLw (Nat.le_of_ble_eq_true rfl) (Nat.le_of_ble_eq_true rfl) hk hn) (Nat.le_of_ble_eq_true rfl) rfl rfl (ci := 11) rfl ⟨0, _, rfl⟩ (m := 82) (fun _ => rfl) (fun r u hw => ?_)
  refine a_perm (ws' := WL (cxG X) A x B y M o f) (pl' := pl) (pw1 _ _ _).symm ?_
  show AW X 8 k n (WL (cxG X) A x B y M o f) pl 431 [some (.ref b), some (.ref (A 0)), some (.ref (B 0)), some (.ref o), some (.int i), none, none, none] [.int r]
  refine a_aload_n (pc := 431) (i := 2) C dL_law_431 rfl rfl ?_
  refine a_aload_n (pc := 432) (i := 0) C dL_law_432 rfl rfl ?_
  refine a_iload (pc := 433) (i := 4) C dL_law_433 rfl ?_
  refine a_iconst (pc := 435) (v := 1) C dL_law_435 rfl ?_
  refine a_iadd (pc := 436) C dL_law_436 ?_
  refine a_sld (pc := 437) C dL_law_437 (in_arg hi (by decide)) ?_
  refine a_aload_n (pc := 438) (i := 0) C dL_law_438 rfl rfl ?_
  refine a_iload (pc := 439) (i := 4) C dL_law_439 rfl ?_
  refine a_iconst (pc := 441) (v := 2) C dL_law_441 rfl ?_
  refine a_iadd (pc := 442) C dL_law_442 ?_
  refine a_sld (pc := 443) C dL_law_443 (in_arg hi (by decide)) ?_
  refine a_aload_n (pc := 444) (i := 0) C dL_law_444 rfl rfl ?_
  refine a_iload (pc := 445) (i := 4) C dL_law_445 rfl ?_
  refine a_iconst (pc := 447) (v := 3) C dL_law_447 rfl ?_
  refine a_iadd (pc := 448) C dL_law_448 ?_
  refine a_sld (pc := 449) C dL_law_449 (in_arg hi (by decide)) ?_
  refine a_perm (pw2 _ _ _ _) ?_
  refine a_xVi (pc := 450) (As := [.int (xs (Int32.toNatClampNeg (i + 1))), .int (xs (Int32.toNatClampNeg (i + 2))), .int (xs (Int32.toNatClampNeg (i + 3)))]) (st := [.int r]) C (k_X12_shade (post := fun r2 y => r = r2 ∧ post x y) B hw) dL_law_450 mth_X12_shade tml_L_78 (fun _ _ _ => trivial) Fz0_ok (rmLw (Nat.le_of_ble_eq_true rfl) (Nat.le_of_ble_eq_true rfl) hk hn) (Nat.le_of_ble_eq_true rfl) rfl rfl (ci := 12) rfl ⟨0, _, rfl⟩ (m := 30) (fun _ => rfl) (fun r2 u hw => ?_)
  generalize ((u1 y.1 0 u.1, u1 (u1 y.2.1 6 u.2.1) 7 u.2.2, y.2.2) : YS) = y1 at hw ⊢
  refine a_perm (ws' := WL (cxG X) A x B y1 M o f) (pl' := pl) (pw2 _ _ _ _).symm ?_
  refine a_icmp_eq (pc := 453) (tgt := 3322) C dL_law_453 (by decide) (fun _ => ?_) (fun c => absurd hw.1 c)
  exact a_widen (by omega) (by omega) (kk _ _ hw.2)
set_option maxRecDepth 20000 in
theorem lc_when {X : Ctx} {ka : KA} {b L : Nat} {xs : Nat → Int32} (C : Cok X cL_law 8 RL room_1 (FzL ka b L xs)) {k n : Nat} (hk : k + 1001 ≤ 601024) (hn : n + 6006 ≤ 7293033) {i : Int32} (hi : 0 ≤ i.toInt ∧ i.toInt + 10 ≤ L ∧ L ≤ 5120) {A B : Nat → Nat} {x : XS} {y : YS} {M : MK} {o : Nat} {f : Nat → Int64} {pl : Pool} {post : XS → YS → Prop} (hw : s1_when pl x y (xs (Int32.toNatClampNeg (i + 1))) (xs (Int32.toNatClampNeg (i + 2))) (xs (Int32.toNatClampNeg (i + 3))) (bz (xs (Int32.toNatClampNeg (i + 4)))) post) (kk : ∀ x y, post x y → AW X 8 (k + 1001) (n + 6006) (WL (cxG X) A x B y M o f) pl 3322 [some (.ref b), some (.ref (A 0)), some (.ref (B 0)), some (.ref o), some (.int i), none, none, none] []) : AW X 8 k n (WL (cxG X) A x B y M o f) pl 458 [some (.ref b), some (.ref (A 0)), some (.ref (B 0)), some (.ref o), some (.int i), none, none, none] [] := by
  refine a_aload_n (pc := 458) (i := 1) C dL_law_458 rfl rfl ?_
  refine a_aload_n (pc := 459) (i := 0) C dL_law_459 rfl rfl ?_
  refine a_iload (pc := 460) (i := 4) C dL_law_460 rfl ?_
  refine a_iconst (pc := 462) (v := 1) C dL_law_462 rfl ?_
  refine a_iadd (pc := 463) C dL_law_463 ?_
  refine a_sld (pc := 464) C dL_law_464 (in_arg hi (by decide)) ?_
  refine a_aload_n (pc := 465) (i := 0) C dL_law_465 rfl rfl ?_
  refine a_iload (pc := 466) (i := 4) C dL_law_466 rfl ?_
  refine a_iconst (pc := 468) (v := 2) C dL_law_468 rfl ?_
  refine a_iadd (pc := 469) C dL_law_469 ?_
  refine a_sld (pc := 470) C dL_law_470 (in_arg hi (by decide)) ?_
  refine a_aload_n (pc := 471) (i := 0) C dL_law_471 rfl rfl ?_
  refine a_iload (pc := 472) (i := 4) C dL_law_472 rfl ?_
  refine a_iconst (pc := 474) (v := 3) C dL_law_474 rfl ?_
  refine a_iadd (pc := 475) C dL_law_475 ?_
  refine a_sld (pc := 476) C dL_law_476 (in_arg hi (by decide)) ?_
  refine a_aload_n (pc := 477) (i := 0) C dL_law_477 rfl rfl ?_
  refine a_iload (pc := 478) (i := 4) C dL_law_478 rfl ?_
  refine a_iconst (pc := 480) (v := 4) C dL_law_480 rfl ?_
  refine a_iadd (pc := 481) C dL_law_481 ?_
  refine a_sld (pc := 482) C dL_law_482 (in_arg hi (by decide)) ?_
  refine a_bz (pc := 483) C dL_law_483 dL_law_486 dL_law_487 dL_law_490 ?_
  refine a_perm (pw1 _ _ _) ?_
  refine a_xVi (pc := 491) (As := [.int (xs (Int32.toNatClampNeg (i + 1))), .int (xs (Int32.toNatClampNeg (i + 2))), .int (xs (Int32.toNatClampNeg (i + 3))), .int (bz (xs (Int32.toNatClampNeg (i + 4))))]) (st := []) C (k_X11_when (post := fun r x => s2_when r x y (xs (Int32.toNatClampNeg (i + 1))) (xs (Int32.toNatClampNeg (i + 2))) (xs (Int32.toNatClampNeg (i + 3))) (bz (xs (Int32.toNatClampNeg (i + 4)))) post) A (hw)) dL_law_491 mth_X11_when tml_L_79 (fun _ _ _ => trivial) Fz0_ok (rmLw (Nat.le_of_ble_eq_true rfl) (Nat.le_of_ble_eq_true rfl) hk hn) (Nat.le_of_ble_eq_true rfl) rfl rfl (ci := 11) rfl ⟨0, _, rfl⟩ (m := 82) (fun _ => rfl) (fun r u hw => ?_)
  refine a_perm (ws' := WL (cxG X) A x B y M o f) (pl' := pl) (pw1 _ _ _).symm ?_
  show AW X 8 k n (WL (cxG X) A x B y M o f) pl 494 [some (.ref b), some (.ref (A 0)), some (.ref (B 0)), some (.ref o), some (.int i), none, none, none] [.int r]
  refine a_aload_n (pc := 494) (i := 2) C dL_law_494 rfl rfl ?_
  refine a_aload_n (pc := 495) (i := 0) C dL_law_495 rfl rfl ?_
  refine a_iload (pc := 496) (i := 4) C dL_law_496 rfl ?_
  refine a_iconst (pc := 498) (v := 1) C dL_law_498 rfl ?_
  refine a_iadd (pc := 499) C dL_law_499 ?_
  refine a_sld (pc := 500) C dL_law_500 (in_arg hi (by decide)) ?_
  refine a_aload_n (pc := 501) (i := 0) C dL_law_501 rfl rfl ?_
  refine a_iload (pc := 502) (i := 4) C dL_law_502 rfl ?_
  refine a_iconst (pc := 504) (v := 2) C dL_law_504 rfl ?_
  refine a_iadd (pc := 505) C dL_law_505 ?_
  refine a_sld (pc := 506) C dL_law_506 (in_arg hi (by decide)) ?_
  refine a_aload_n (pc := 507) (i := 0) C dL_law_507 rfl rfl ?_
  refine a_iload (pc := 508) (i := 4) C dL_law_508 rfl ?_
  refine a_iconst (pc := 510) (v := 3) C dL_law_510 rfl ?_
  refine a_iadd (pc := 511) C dL_law_511 ?_
  refine a_sld (pc := 512) C dL_law_512 (in_arg hi (by decide)) ?_
  refine a_aload_n (pc := 513) (i := 0) C dL_law_513 rfl rfl ?_
  refine a_iload (pc := 514) (i := 4) C dL_law_514 rfl ?_
  refine a_iconst (pc := 516) (v := 4) C dL_law_516 rfl ?_
  refine a_iadd (pc := 517) C dL_law_517 ?_
  refine a_sld (pc := 518) C dL_law_518 (in_arg hi (by decide)) ?_
  refine a_bz (pc := 519) C dL_law_519 dL_law_522 dL_law_523 dL_law_526 ?_
  refine a_perm (pw2 _ _ _ _) ?_
  refine a_xVi (pc := 527) (As := [.int (xs (Int32.toNatClampNeg (i + 1))), .int (xs (Int32.toNatClampNeg (i + 2))), .int (xs (Int32.toNatClampNeg (i + 3))), .int (bz (xs (Int32.toNatClampNeg (i + 4))))]) (st := [.int r]) C (k_X12_when (post := fun r2 y => r = r2 ∧ post x y) B hw) dL_law_527 mth_X12_when tml_L_83 (fun _ _ _ => trivial) Fz0_ok (rmLw (Nat.le_of_ble_eq_true rfl) (Nat.le_of_ble_eq_true rfl) hk hn) (Nat.le_of_ble_eq_true rfl) rfl rfl (ci := 12) rfl ⟨0, _, rfl⟩ (m := 30) (fun _ => rfl) (fun r2 u hw => ?_)
  generalize ((u1 y.1 0 u.1, u1 (u1 y.2.1 6 u.2.1) 7 u.2.2, y.2.2) : YS) = y1 at hw ⊢
  refine a_perm (ws' := WL (cxG X) A x B y1 M o f) (pl' := pl) (pw2 _ _ _ _).symm ?_
  refine a_icmp_eq (pc := 530) (tgt := 3322) C dL_law_530 (by decide) (fun _ => ?_) (fun c => absurd hw.1 c)
  exact a_widen (by omega) (by omega) (kk _ _ hw.2)
set_option maxRecDepth 20000 in
theorem lc_dim {X : Ctx} {ka : KA} {b L : Nat} {xs : Nat → Int32} (C : Cok X cL_law 8 RL room_1 (FzL ka b L xs)) {k n : Nat} (hk : k + 1001 ≤ 601024) (hn : n + 6006 ≤ 7293033) {i : Int32} (hi : 0 ≤ i.toInt ∧ i.toInt + 10 ≤ L ∧ L ≤ 5120) {A B : Nat → Nat} {x : XS} {y : YS} {M : MK} {o : Nat} {f : Nat → Int64} {pl : Pool} {post : XS → YS → Prop} (hw : s1_dim pl x y (xs (Int32.toNatClampNeg (i + 1))) (xs (Int32.toNatClampNeg (i + 2))) post) (kk : ∀ x y, post x y → AW X 8 (k + 1001) (n + 6006) (WL (cxG X) A x B y M o f) pl 3322 [some (.ref b), some (.ref (A 0)), some (.ref (B 0)), some (.ref o), some (.int i), none, none, none] []) : AW X 8 k n (WL (cxG X) A x B y M o f) pl 535 [some (.ref b), some (.ref (A 0)), some (.ref (B 0)), some (.ref o), some (.int i), none, none, none] [] := by
  refine a_aload_n (pc := 535) (i := 1) C dL_law_535 rfl rfl ?_
  refine a_aload_n (pc := 536) (i := 0) C dL_law_536 rfl rfl ?_
  refine a_iload (pc := 537) (i := 4) C dL_law_537 rfl ?_
  refine a_iconst (pc := 539) (v := 1) C dL_law_539 rfl ?_
  refine a_iadd (pc := 540) C dL_law_540 ?_
  refine a_sld (pc := 541) C dL_law_541 (in_arg hi (by decide)) ?_
  refine a_aload_n (pc := 542) (i := 0) C dL_law_542 rfl rfl ?_
  refine a_iload (pc := 543) (i := 4) C dL_law_543 rfl ?_
  refine a_iconst (pc := 545) (v := 2) C dL_law_545 rfl ?_
  refine a_iadd (pc := 546) C dL_law_546 ?_
  refine a_sld (pc := 547) C dL_law_547 (in_arg hi (by decide)) ?_
  refine a_perm (pw1 _ _ _) ?_
  refine a_xVi (pc := 548) (As := [.int (xs (Int32.toNatClampNeg (i + 1))), .int (xs (Int32.toNatClampNeg (i + 2)))]) (st := []) C (k_X11_dim (post := fun r x => s2_dim r x y (xs (Int32.toNatClampNeg (i + 1))) (xs (Int32.toNatClampNeg (i + 2))) post) A (hw)) dL_law_548 mth_X11_dim tml_L_84 (fun _ _ _ => trivial) Fz0_ok (rmLw (Nat.le_of_ble_eq_true rfl) (Nat.le_of_ble_eq_true rfl) hk hn) (Nat.le_of_ble_eq_true rfl) rfl rfl (ci := 11) rfl ⟨0, _, rfl⟩ (m := 82) (fun _ => rfl) (fun r u hw => ?_)
  refine a_perm (ws' := WL (cxG X) A x B y M o f) (pl' := pl) (pw1 _ _ _).symm ?_
  show AW X 8 k n (WL (cxG X) A x B y M o f) pl 551 [some (.ref b), some (.ref (A 0)), some (.ref (B 0)), some (.ref o), some (.int i), none, none, none] [.int r]
  refine a_aload_n (pc := 551) (i := 2) C dL_law_551 rfl rfl ?_
  refine a_aload_n (pc := 552) (i := 0) C dL_law_552 rfl rfl ?_
  refine a_iload (pc := 553) (i := 4) C dL_law_553 rfl ?_
  refine a_iconst (pc := 555) (v := 1) C dL_law_555 rfl ?_
  refine a_iadd (pc := 556) C dL_law_556 ?_
  refine a_sld (pc := 557) C dL_law_557 (in_arg hi (by decide)) ?_
  refine a_aload_n (pc := 558) (i := 0) C dL_law_558 rfl rfl ?_
  refine a_iload (pc := 559) (i := 4) C dL_law_559 rfl ?_
  refine a_iconst (pc := 561) (v := 2) C dL_law_561 rfl ?_
  refine a_iadd (pc := 562) C dL_law_562 ?_
  refine a_sld (pc := 563) C dL_law_563 (in_arg hi (by decide)) ?_
  refine a_perm (pw2 _ _ _ _) ?_
  refine a_xVi (pc := 564) (As := [.int (xs (Int32.toNatClampNeg (i + 1))), .int (xs (Int32.toNatClampNeg (i + 2)))]) (st := [.int r]) C (k_X12_dim (post := fun r2 y => r = r2 ∧ post x y) B hw) dL_law_564 mth_X12_dim tml_L_87 (fun _ _ _ => trivial) Fz0_ok (rmLw (Nat.le_of_ble_eq_true rfl) (Nat.le_of_ble_eq_true rfl) hk hn) (Nat.le_of_ble_eq_true rfl) rfl rfl (ci := 12) rfl ⟨0, _, rfl⟩ (m := 30) (fun _ => rfl) (fun r2 u hw => ?_)
  generalize ((u1 y.1 0 u.1, u1 (u1 y.2.1 6 u.2.1) 7 u.2.2, y.2.2) : YS) = y1 at hw ⊢
  refine a_perm (ws' := WL (cxG X) A x B y1 M o f) (pl' := pl) (pw2 _ _ _ _).symm ?_
  refine a_icmp_eq (pc := 567) (tgt := 3322) C dL_law_567 (by decide) (fun _ => ?_) (fun c => absurd hw.1 c)
  exact a_widen (by omega) (by omega) (kk _ _ hw.2)
set_option maxRecDepth 20000 in
theorem lc_shutAt {X : Ctx} {ka : KA} {b L : Nat} {xs : Nat → Int32} (C : Cok X cL_law 8 RL room_1 (FzL ka b L xs)) {k n : Nat} (hk : k + 1001 ≤ 601024) (hn : n + 6006 ≤ 7293033) {i : Int32} (hi : 0 ≤ i.toInt ∧ i.toInt + 10 ≤ L ∧ L ≤ 5120) {A B : Nat → Nat} {x : XS} {y : YS} {M : MK} {o : Nat} {f : Nat → Int64} {pl : Pool} {post : XS → YS → Prop} (hw : s1_shutAt pl x y (xs (Int32.toNatClampNeg (i + 1))) (xs (Int32.toNatClampNeg (i + 2))) (xs (Int32.toNatClampNeg (i + 3))) post) (kk : ∀ x y, post x y → AW X 8 (k + 1001) (n + 6006) (WL (cxG X) A x B y M o f) pl 3322 [some (.ref b), some (.ref (A 0)), some (.ref (B 0)), some (.ref o), some (.int i), none, none, none] []) : AW X 8 k n (WL (cxG X) A x B y M o f) pl 572 [some (.ref b), some (.ref (A 0)), some (.ref (B 0)), some (.ref o), some (.int i), none, none, none] [] := by
  refine a_aload_n (pc := 572) (i := 1) C dL_law_572 rfl rfl ?_
  refine a_aload_n (pc := 573) (i := 0) C dL_law_573 rfl rfl ?_
  refine a_iload (pc := 574) (i := 4) C dL_law_574 rfl ?_
  refine a_iconst (pc := 576) (v := 1) C dL_law_576 rfl ?_
  refine a_iadd (pc := 577) C dL_law_577 ?_
  refine a_sld (pc := 578) C dL_law_578 (in_arg hi (by decide)) ?_
  refine a_aload_n (pc := 579) (i := 0) C dL_law_579 rfl rfl ?_
  refine a_iload (pc := 580) (i := 4) C dL_law_580 rfl ?_
  refine a_iconst (pc := 582) (v := 2) C dL_law_582 rfl ?_
  refine a_iadd (pc := 583) C dL_law_583 ?_
  refine a_sld (pc := 584) C dL_law_584 (in_arg hi (by decide)) ?_
  refine a_aload_n (pc := 585) (i := 0) C dL_law_585 rfl rfl ?_
  refine a_iload (pc := 586) (i := 4) C dL_law_586 rfl ?_
  refine a_iconst (pc := 588) (v := 3) C dL_law_588 rfl ?_
  refine a_iadd (pc := 589) C dL_law_589 ?_
  refine a_sld (pc := 590) C dL_law_590 (in_arg hi (by decide)) ?_
  refine a_perm (pw1 _ _ _) ?_
  refine a_xVi (pc := 591) (As := [.int (xs (Int32.toNatClampNeg (i + 1))), .int (xs (Int32.toNatClampNeg (i + 2))), .int (xs (Int32.toNatClampNeg (i + 3)))]) (st := []) C (k_X11_shutAt (post := fun r x => s2_shutAt r x y (xs (Int32.toNatClampNeg (i + 1))) (xs (Int32.toNatClampNeg (i + 2))) (xs (Int32.toNatClampNeg (i + 3))) post) A (hw)) dL_law_591 mth_X11_shutAt tml_L_88 (fun _ _ _ => trivial) Fz0_ok (rmLw (Nat.le_of_ble_eq_true rfl) (Nat.le_of_ble_eq_true rfl) hk hn) (Nat.le_of_ble_eq_true rfl) rfl rfl (ci := 11) rfl ⟨0, _, rfl⟩ (m := 82) (fun _ => rfl) (fun r u hw => ?_)
  refine a_perm (ws' := WL (cxG X) A x B y M o f) (pl' := pl) (pw1 _ _ _).symm ?_
  show AW X 8 k n (WL (cxG X) A x B y M o f) pl 594 [some (.ref b), some (.ref (A 0)), some (.ref (B 0)), some (.ref o), some (.int i), none, none, none] [.int r]
  refine a_aload_n (pc := 594) (i := 2) C dL_law_594 rfl rfl ?_
  refine a_aload_n (pc := 595) (i := 0) C dL_law_595 rfl rfl ?_
  refine a_iload (pc := 596) (i := 4) C dL_law_596 rfl ?_
  refine a_iconst (pc := 598) (v := 1) C dL_law_598 rfl ?_
  refine a_iadd (pc := 599) C dL_law_599 ?_
  refine a_sld (pc := 600) C dL_law_600 (in_arg hi (by decide)) ?_
  refine a_aload_n (pc := 601) (i := 0) C dL_law_601 rfl rfl ?_
  refine a_iload (pc := 602) (i := 4) C dL_law_602 rfl ?_
  refine a_iconst (pc := 604) (v := 2) C dL_law_604 rfl ?_
  refine a_iadd (pc := 605) C dL_law_605 ?_
  refine a_sld (pc := 606) C dL_law_606 (in_arg hi (by decide)) ?_
  refine a_aload_n (pc := 607) (i := 0) C dL_law_607 rfl rfl ?_
  refine a_iload (pc := 608) (i := 4) C dL_law_608 rfl ?_
  refine a_iconst (pc := 610) (v := 3) C dL_law_610 rfl ?_
  refine a_iadd (pc := 611) C dL_law_611 ?_
  refine a_sld (pc := 612) C dL_law_612 (in_arg hi (by decide)) ?_
  refine a_perm (pw2 _ _ _ _) ?_
  refine a_xVi (pc := 613) (As := [.int (xs (Int32.toNatClampNeg (i + 1))), .int (xs (Int32.toNatClampNeg (i + 2))), .int (xs (Int32.toNatClampNeg (i + 3)))]) (st := [.int r]) C (k_X12_shutAt (post := fun r2 y => r = r2 ∧ post x y) B hw) dL_law_613 mth_X12_shutAt tml_L_91 (fun _ _ _ => trivial) Fz0_ok (rmLw (Nat.le_of_ble_eq_true rfl) (Nat.le_of_ble_eq_true rfl) hk hn) (Nat.le_of_ble_eq_true rfl) rfl rfl (ci := 12) rfl ⟨0, _, rfl⟩ (m := 30) (fun _ => rfl) (fun r2 u hw => ?_)
  generalize ((u1 y.1 0 u.1, u1 (u1 y.2.1 6 u.2.1) 7 u.2.2, y.2.2) : YS) = y1 at hw ⊢
  refine a_perm (ws' := WL (cxG X) A x B y1 M o f) (pl' := pl) (pw2 _ _ _ _).symm ?_
  refine a_icmp_eq (pc := 616) (tgt := 3322) C dL_law_616 (by decide) (fun _ => ?_) (fun c => absurd hw.1 c)
  exact a_widen (by omega) (by omega) (kk _ _ hw.2)
set_option maxRecDepth 20000 in
theorem lc_piece {X : Ctx} {ka : KA} {b L : Nat} {xs : Nat → Int32} (C : Cok X cL_law 8 RL room_1 (FzL ka b L xs)) {k n : Nat} (hk : k + 1001 ≤ 601024) (hn : n + 6006 ≤ 7293033) {i : Int32} (hi : 0 ≤ i.toInt ∧ i.toInt + 10 ≤ L ∧ L ≤ 5120) {A B : Nat → Nat} {x : XS} {y : YS} {M : MK} {o : Nat} {f : Nat → Int64} {pl : Pool} {post : XS → YS → Prop} (hw : s1_piece pl x y (xs (Int32.toNatClampNeg (i + 1))) (xs (Int32.toNatClampNeg (i + 2))) (xs (Int32.toNatClampNeg (i + 3))) (xs (Int32.toNatClampNeg (i + 4))) (xs (Int32.toNatClampNeg (i + 5))) (xs (Int32.toNatClampNeg (i + 6))) post) (kk : ∀ x y, post x y → AW X 8 (k + 1001) (n + 6006) (WL (cxG X) A x B y M o f) pl 3322 [some (.ref b), some (.ref (A 0)), some (.ref (B 0)), some (.ref o), some (.int i), none, none, none] []) : AW X 8 k n (WL (cxG X) A x B y M o f) pl 739 [some (.ref b), some (.ref (A 0)), some (.ref (B 0)), some (.ref o), some (.int i), none, none, none] [] := by
  refine a_aload_n (pc := 739) (i := 1) C dL_law_739 rfl rfl ?_
  refine a_aload_n (pc := 740) (i := 0) C dL_law_740 rfl rfl ?_
  refine a_iload (pc := 741) (i := 4) C dL_law_741 rfl ?_
  refine a_iconst (pc := 743) (v := 1) C dL_law_743 rfl ?_
  refine a_iadd (pc := 744) C dL_law_744 ?_
  refine a_sld (pc := 745) C dL_law_745 (in_arg hi (by decide)) ?_
  refine a_aload_n (pc := 746) (i := 0) C dL_law_746 rfl rfl ?_
  refine a_iload (pc := 747) (i := 4) C dL_law_747 rfl ?_
  refine a_iconst (pc := 749) (v := 2) C dL_law_749 rfl ?_
  refine a_iadd (pc := 750) C dL_law_750 ?_
  refine a_sld (pc := 751) C dL_law_751 (in_arg hi (by decide)) ?_
  refine a_aload_n (pc := 752) (i := 0) C dL_law_752 rfl rfl ?_
  refine a_iload (pc := 753) (i := 4) C dL_law_753 rfl ?_
  refine a_iconst (pc := 755) (v := 3) C dL_law_755 rfl ?_
  refine a_iadd (pc := 756) C dL_law_756 ?_
  refine a_sld (pc := 757) C dL_law_757 (in_arg hi (by decide)) ?_
  refine a_aload_n (pc := 758) (i := 0) C dL_law_758 rfl rfl ?_
  refine a_iload (pc := 759) (i := 4) C dL_law_759 rfl ?_
  refine a_iconst (pc := 761) (v := 4) C dL_law_761 rfl ?_
  refine a_iadd (pc := 762) C dL_law_762 ?_
  refine a_sld (pc := 763) C dL_law_763 (in_arg hi (by decide)) ?_
  refine a_aload_n (pc := 764) (i := 0) C dL_law_764 rfl rfl ?_
  refine a_iload (pc := 765) (i := 4) C dL_law_765 rfl ?_
  refine a_iconst (pc := 767) (v := 5) C dL_law_767 rfl ?_
  refine a_iadd (pc := 768) C dL_law_768 ?_
  refine a_sld (pc := 769) C dL_law_769 (in_arg hi (by decide)) ?_
  refine a_aload_n (pc := 770) (i := 0) C dL_law_770 rfl rfl ?_
  refine a_iload (pc := 771) (i := 4) C dL_law_771 rfl ?_
  refine a_bipush (pc := 773) (v := 6) C dL_law_773 rfl ?_
  refine a_iadd (pc := 775) C dL_law_775 ?_
  refine a_sld (pc := 776) C dL_law_776 (in_arg hi (by decide)) ?_
  refine a_perm (pw1 _ _ _) ?_
  refine a_xVi (pc := 777) (As := [.int (xs (Int32.toNatClampNeg (i + 1))), .int (xs (Int32.toNatClampNeg (i + 2))), .int (xs (Int32.toNatClampNeg (i + 3))), .int (xs (Int32.toNatClampNeg (i + 4))), .int (xs (Int32.toNatClampNeg (i + 5))), .int (xs (Int32.toNatClampNeg (i + 6)))]) (st := []) C (k_X11_piece (ka := ka) (post := fun r x => s2_piece r x y (xs (Int32.toNatClampNeg (i + 1))) (xs (Int32.toNatClampNeg (i + 2))) (xs (Int32.toNatClampNeg (i + 3))) (xs (Int32.toNatClampNeg (i + 4))) (xs (Int32.toNatClampNeg (i + 5))) (xs (Int32.toNatClampNeg (i + 6))) post) A (fun pl' hp => hw pl' (fun z hz => hp z (List.mem_append_right _ hz)))) dL_law_777 mth_X11_piece tml_L_101 (fun _ _ h => h.1.1.1) (FzC_ok ka) (rmLw (Nat.le_of_ble_eq_true rfl) (Nat.le_of_ble_eq_true rfl) hk hn) (Nat.le_of_ble_eq_true rfl) rfl rfl (ci := 11) rfl ⟨0, _, rfl⟩ (m := 82) (fun _ => rfl) (fun r u hw => ?_)
  generalize ((u1 (u1 (u1 (u1 (u1 (u1 (u1 (u1 (u1 (u1 (u1 (u1 (u1 x.1 30 u.2.1) 31 u.2.2.1) 32 u.2.2.2.1) 33 u.2.2.2.2.1) 34 u.2.2.2.2.2.1) 35 u.2.2.2.2.2.2.1) 36 u.2.2.2.2.2.2.2.1) 37 u.2.2.2.2.2.2.2.2.1) 38 u.2.2.2.2.2.2.2.2.2.1) 39 u.2.2.2.2.2.2.2.2.2.2.1) 40 u.2.2.2.2.2.2.2.2.2.2.2.1) 41 u.2.2.2.2.2.2.2.2.2.2.2.2.1) 42 u.2.2.2.2.2.2.2.2.2.2.2.2.2.2.2.2.2.1, u1 (u1 (u1 (u1 x.2.1 21 u.2.2.2.2.2.2.2.2.2.2.2.2.2.2.2.1) 22 u.2.2.2.2.2.2.2.2.2.2.2.2.2.2.2.2.1) 24 u.2.2.2.2.2.2.2.2.2.2.2.2.2.2.2.2.2.2.1) 23 u.2.2.2.2.2.2.2.2.2.2.2.2.2.2.2.2.2.2.2, u1 (u1 x.2.2.1 10 u.2.2.2.2.2.2.2.2.2.2.2.2.2.1) 11 u.2.2.2.2.2.2.2.2.2.2.2.2.2.2.1, x.2.2.2.1, u.1, x.2.2.2.2.2.1, x.2.2.2.2.2.2) : XS) = x1 at hw ⊢
  refine a_perm (ws' := WL (cxG X) A x1 B y M o f) (pl' := pl) (pw1 _ _ _).symm ?_
  show AW X 8 k n (WL (cxG X) A x1 B y M o f) pl 780 [some (.ref b), some (.ref (A 0)), some (.ref (B 0)), some (.ref o), some (.int i), none, none, none] [.int r]
  refine a_aload_n (pc := 780) (i := 2) C dL_law_780 rfl rfl ?_
  refine a_aload_n (pc := 781) (i := 0) C dL_law_781 rfl rfl ?_
  refine a_iload (pc := 782) (i := 4) C dL_law_782 rfl ?_
  refine a_iconst (pc := 784) (v := 1) C dL_law_784 rfl ?_
  refine a_iadd (pc := 785) C dL_law_785 ?_
  refine a_sld (pc := 786) C dL_law_786 (in_arg hi (by decide)) ?_
  refine a_aload_n (pc := 787) (i := 0) C dL_law_787 rfl rfl ?_
  refine a_iload (pc := 788) (i := 4) C dL_law_788 rfl ?_
  refine a_iconst (pc := 790) (v := 2) C dL_law_790 rfl ?_
  refine a_iadd (pc := 791) C dL_law_791 ?_
  refine a_sld (pc := 792) C dL_law_792 (in_arg hi (by decide)) ?_
  refine a_aload_n (pc := 793) (i := 0) C dL_law_793 rfl rfl ?_
  refine a_iload (pc := 794) (i := 4) C dL_law_794 rfl ?_
  refine a_iconst (pc := 796) (v := 3) C dL_law_796 rfl ?_
  refine a_iadd (pc := 797) C dL_law_797 ?_
  refine a_sld (pc := 798) C dL_law_798 (in_arg hi (by decide)) ?_
  refine a_aload_n (pc := 799) (i := 0) C dL_law_799 rfl rfl ?_
  refine a_iload (pc := 800) (i := 4) C dL_law_800 rfl ?_
  refine a_iconst (pc := 802) (v := 4) C dL_law_802 rfl ?_
  refine a_iadd (pc := 803) C dL_law_803 ?_
  refine a_sld (pc := 804) C dL_law_804 (in_arg hi (by decide)) ?_
  refine a_aload_n (pc := 805) (i := 0) C dL_law_805 rfl rfl ?_
  refine a_iload (pc := 806) (i := 4) C dL_law_806 rfl ?_
  refine a_iconst (pc := 808) (v := 5) C dL_law_808 rfl ?_
  refine a_iadd (pc := 809) C dL_law_809 ?_
  refine a_sld (pc := 810) C dL_law_810 (in_arg hi (by decide)) ?_
  refine a_aload_n (pc := 811) (i := 0) C dL_law_811 rfl rfl ?_
  refine a_iload (pc := 812) (i := 4) C dL_law_812 rfl ?_
  refine a_bipush (pc := 814) (v := 6) C dL_law_814 rfl ?_
  refine a_iadd (pc := 816) C dL_law_816 ?_
  refine a_sld (pc := 817) C dL_law_817 (in_arg hi (by decide)) ?_
  refine a_perm (pw2 _ _ _ _) ?_
  refine a_xVi (pc := 818) (As := [.int (xs (Int32.toNatClampNeg (i + 1))), .int (xs (Int32.toNatClampNeg (i + 2))), .int (xs (Int32.toNatClampNeg (i + 3))), .int (xs (Int32.toNatClampNeg (i + 4))), .int (xs (Int32.toNatClampNeg (i + 5))), .int (xs (Int32.toNatClampNeg (i + 6)))]) (st := [.int r]) C (k_X12_piece (post := fun r2 y => r = r2 ∧ post x1 y) B hw) dL_law_818 mth_X12_piece tml_L_104 (fun _ _ _ => trivial) Fz0_ok (rmLw (Nat.le_of_ble_eq_true rfl) (Nat.le_of_ble_eq_true rfl) hk hn) (Nat.le_of_ble_eq_true rfl) rfl rfl (ci := 12) rfl ⟨0, _, rfl⟩ (m := 30) (fun _ => rfl) (fun r2 u hw => ?_)
  generalize ((u1 (u1 (u1 y.1 0 u.1) 6 u.2.1) 7 u.2.2.1, u1 (u1 (u1 (u1 (u1 (u1 (u1 (u1 (u1 (u1 y.2.1 10 u.2.2.2.1) 8 u.2.2.2.2.1) 9 u.2.2.2.2.2.1) 6 u.2.2.2.2.2.2.1) 7 u.2.2.2.2.2.2.2.1) 11 u.2.2.2.2.2.2.2.2.1) 12 u.2.2.2.2.2.2.2.2.2.1) 13 u.2.2.2.2.2.2.2.2.2.2.1) 15 u.2.2.2.2.2.2.2.2.2.2.2.1) 14 u.2.2.2.2.2.2.2.2.2.2.2.2, y.2.2) : YS) = y1 at hw ⊢
  refine a_perm (ws' := WL (cxG X) A x1 B y1 M o f) (pl' := pl) (pw2 _ _ _ _).symm ?_
  refine a_icmp_eq (pc := 821) (tgt := 3322) C dL_law_821 (by decide) (fun _ => ?_) (fun c => absurd hw.1 c)
  exact a_widen (by omega) (by omega) (kk _ _ hw.2)
set_option maxRecDepth 20000 in
theorem lc_soon {X : Ctx} {ka : KA} {b L : Nat} {xs : Nat → Int32} (C : Cok X cL_law 8 RL room_1 (FzL ka b L xs)) {k n : Nat} (hk : k + 1001 ≤ 601024) (hn : n + 6006 ≤ 7293033) {i : Int32} (hi : 0 ≤ i.toInt ∧ i.toInt + 10 ≤ L ∧ L ≤ 5120) {A B : Nat → Nat} {x : XS} {y : YS} {M : MK} {o : Nat} {f : Nat → Int64} {pl : Pool} {post : XS → YS → Prop} (hw : s1_soon pl x y (xs (Int32.toNatClampNeg (i + 1))) (xs (Int32.toNatClampNeg (i + 2))) (xs (Int32.toNatClampNeg (i + 3))) (xs (Int32.toNatClampNeg (i + 4))) (xs (Int32.toNatClampNeg (i + 5))) (xs (Int32.toNatClampNeg (i + 6))) post) (kk : ∀ x y, post x y → AW X 8 (k + 1001) (n + 6006) (WL (cxG X) A x B y M o f) pl 3322 [some (.ref b), some (.ref (A 0)), some (.ref (B 0)), some (.ref o), some (.int i), none, none, none] []) : AW X 8 k n (WL (cxG X) A x B y M o f) pl 826 [some (.ref b), some (.ref (A 0)), some (.ref (B 0)), some (.ref o), some (.int i), none, none, none] [] := by
  refine a_aload_n (pc := 826) (i := 1) C dL_law_826 rfl rfl ?_
  refine a_aload_n (pc := 827) (i := 0) C dL_law_827 rfl rfl ?_
  refine a_iload (pc := 828) (i := 4) C dL_law_828 rfl ?_
  refine a_iconst (pc := 830) (v := 1) C dL_law_830 rfl ?_
  refine a_iadd (pc := 831) C dL_law_831 ?_
  refine a_sld (pc := 832) C dL_law_832 (in_arg hi (by decide)) ?_
  refine a_aload_n (pc := 833) (i := 0) C dL_law_833 rfl rfl ?_
  refine a_iload (pc := 834) (i := 4) C dL_law_834 rfl ?_
  refine a_iconst (pc := 836) (v := 2) C dL_law_836 rfl ?_
  refine a_iadd (pc := 837) C dL_law_837 ?_
  refine a_sld (pc := 838) C dL_law_838 (in_arg hi (by decide)) ?_
  refine a_aload_n (pc := 839) (i := 0) C dL_law_839 rfl rfl ?_
  refine a_iload (pc := 840) (i := 4) C dL_law_840 rfl ?_
  refine a_iconst (pc := 842) (v := 3) C dL_law_842 rfl ?_
  refine a_iadd (pc := 843) C dL_law_843 ?_
  refine a_sld (pc := 844) C dL_law_844 (in_arg hi (by decide)) ?_
  refine a_aload_n (pc := 845) (i := 0) C dL_law_845 rfl rfl ?_
  refine a_iload (pc := 846) (i := 4) C dL_law_846 rfl ?_
  refine a_iconst (pc := 848) (v := 4) C dL_law_848 rfl ?_
  refine a_iadd (pc := 849) C dL_law_849 ?_
  refine a_sld (pc := 850) C dL_law_850 (in_arg hi (by decide)) ?_
  refine a_aload_n (pc := 851) (i := 0) C dL_law_851 rfl rfl ?_
  refine a_iload (pc := 852) (i := 4) C dL_law_852 rfl ?_
  refine a_iconst (pc := 854) (v := 5) C dL_law_854 rfl ?_
  refine a_iadd (pc := 855) C dL_law_855 ?_
  refine a_sld (pc := 856) C dL_law_856 (in_arg hi (by decide)) ?_
  refine a_aload_n (pc := 857) (i := 0) C dL_law_857 rfl rfl ?_
  refine a_iload (pc := 858) (i := 4) C dL_law_858 rfl ?_
  refine a_bipush (pc := 860) (v := 6) C dL_law_860 rfl ?_
  refine a_iadd (pc := 862) C dL_law_862 ?_
  refine a_sld (pc := 863) C dL_law_863 (in_arg hi (by decide)) ?_
  refine a_perm (pw1 _ _ _) ?_
  refine a_xVi (pc := 864) (As := [.int (xs (Int32.toNatClampNeg (i + 1))), .int (xs (Int32.toNatClampNeg (i + 2))), .int (xs (Int32.toNatClampNeg (i + 3))), .int (xs (Int32.toNatClampNeg (i + 4))), .int (xs (Int32.toNatClampNeg (i + 5))), .int (xs (Int32.toNatClampNeg (i + 6)))]) (st := []) C (k_X11_soon (ka := ka) (post := fun r x => s2_soon r x y (xs (Int32.toNatClampNeg (i + 1))) (xs (Int32.toNatClampNeg (i + 2))) (xs (Int32.toNatClampNeg (i + 3))) (xs (Int32.toNatClampNeg (i + 4))) (xs (Int32.toNatClampNeg (i + 5))) (xs (Int32.toNatClampNeg (i + 6))) post) A (fun pl' hp => hw pl' (fun z hz => hp z (List.mem_append_right _ hz)))) dL_law_864 mth_X11_soon tml_L_105 (fun _ _ h => h.1.1.1) (FzC_ok ka) (rmLw (Nat.le_of_ble_eq_true rfl) (Nat.le_of_ble_eq_true rfl) hk hn) (Nat.le_of_ble_eq_true rfl) rfl rfl (ci := 11) rfl ⟨0, _, rfl⟩ (m := 82) (fun _ => rfl) (fun r u hw => ?_)
  generalize ((u1 (u1 (u1 (u1 (u1 (u1 (u1 (u1 (u1 (u1 (u1 x.1 30 u.2.1) 31 u.2.2.1) 32 u.2.2.2.1) 33 u.2.2.2.2.1) 34 u.2.2.2.2.2.1) 35 u.2.2.2.2.2.2.1) 36 u.2.2.2.2.2.2.2.1) 37 u.2.2.2.2.2.2.2.2.1) 38 u.2.2.2.2.2.2.2.2.2.1) 39 u.2.2.2.2.2.2.2.2.2.2.1) 40 u.2.2.2.2.2.2.2.2.2.2.2.1, u1 x.2.1 21 u.2.2.2.2.2.2.2.2.2.2.2.2.2.2, u1 (u1 x.2.2.1 10 u.2.2.2.2.2.2.2.2.2.2.2.2.1) 11 u.2.2.2.2.2.2.2.2.2.2.2.2.2.1, x.2.2.2.1, u.1, x.2.2.2.2.2.1, x.2.2.2.2.2.2) : XS) = x1 at hw ⊢
  refine a_perm (ws' := WL (cxG X) A x1 B y M o f) (pl' := pl) (pw1 _ _ _).symm ?_
  show AW X 8 k n (WL (cxG X) A x1 B y M o f) pl 867 [some (.ref b), some (.ref (A 0)), some (.ref (B 0)), some (.ref o), some (.int i), none, none, none] [.int r]
  refine a_aload_n (pc := 867) (i := 2) C dL_law_867 rfl rfl ?_
  refine a_aload_n (pc := 868) (i := 0) C dL_law_868 rfl rfl ?_
  refine a_iload (pc := 869) (i := 4) C dL_law_869 rfl ?_
  refine a_iconst (pc := 871) (v := 1) C dL_law_871 rfl ?_
  refine a_iadd (pc := 872) C dL_law_872 ?_
  refine a_sld (pc := 873) C dL_law_873 (in_arg hi (by decide)) ?_
  refine a_aload_n (pc := 874) (i := 0) C dL_law_874 rfl rfl ?_
  refine a_iload (pc := 875) (i := 4) C dL_law_875 rfl ?_
  refine a_iconst (pc := 877) (v := 2) C dL_law_877 rfl ?_
  refine a_iadd (pc := 878) C dL_law_878 ?_
  refine a_sld (pc := 879) C dL_law_879 (in_arg hi (by decide)) ?_
  refine a_aload_n (pc := 880) (i := 0) C dL_law_880 rfl rfl ?_
  refine a_iload (pc := 881) (i := 4) C dL_law_881 rfl ?_
  refine a_iconst (pc := 883) (v := 3) C dL_law_883 rfl ?_
  refine a_iadd (pc := 884) C dL_law_884 ?_
  refine a_sld (pc := 885) C dL_law_885 (in_arg hi (by decide)) ?_
  refine a_aload_n (pc := 886) (i := 0) C dL_law_886 rfl rfl ?_
  refine a_iload (pc := 887) (i := 4) C dL_law_887 rfl ?_
  refine a_iconst (pc := 889) (v := 4) C dL_law_889 rfl ?_
  refine a_iadd (pc := 890) C dL_law_890 ?_
  refine a_sld (pc := 891) C dL_law_891 (in_arg hi (by decide)) ?_
  refine a_aload_n (pc := 892) (i := 0) C dL_law_892 rfl rfl ?_
  refine a_iload (pc := 893) (i := 4) C dL_law_893 rfl ?_
  refine a_iconst (pc := 895) (v := 5) C dL_law_895 rfl ?_
  refine a_iadd (pc := 896) C dL_law_896 ?_
  refine a_sld (pc := 897) C dL_law_897 (in_arg hi (by decide)) ?_
  refine a_aload_n (pc := 898) (i := 0) C dL_law_898 rfl rfl ?_
  refine a_iload (pc := 899) (i := 4) C dL_law_899 rfl ?_
  refine a_bipush (pc := 901) (v := 6) C dL_law_901 rfl ?_
  refine a_iadd (pc := 903) C dL_law_903 ?_
  refine a_sld (pc := 904) C dL_law_904 (in_arg hi (by decide)) ?_
  refine a_perm (pw2 _ _ _ _) ?_
  refine a_xVi (pc := 905) (As := [.int (xs (Int32.toNatClampNeg (i + 1))), .int (xs (Int32.toNatClampNeg (i + 2))), .int (xs (Int32.toNatClampNeg (i + 3))), .int (xs (Int32.toNatClampNeg (i + 4))), .int (xs (Int32.toNatClampNeg (i + 5))), .int (xs (Int32.toNatClampNeg (i + 6)))]) (st := [.int r]) C (k_X12_soon (post := fun r2 y => r = r2 ∧ post x1 y) B hw) dL_law_905 mth_X12_soon tml_L_108 (fun _ _ _ => trivial) Fz0_ok (rmLw (Nat.le_of_ble_eq_true rfl) (Nat.le_of_ble_eq_true rfl) hk hn) (Nat.le_of_ble_eq_true rfl) rfl rfl (ci := 12) rfl ⟨0, _, rfl⟩ (m := 30) (fun _ => rfl) (fun r2 u hw => ?_)
  generalize ((u1 (u1 y.1 0 u.1) 6 u.2.1, u1 (u1 (u1 (u1 (u1 (u1 (u1 y.2.1 10 u.2.2.1) 8 u.2.2.2.1) 9 u.2.2.2.2.1) 6 u.2.2.2.2.2.1) 7 u.2.2.2.2.2.2.1) 11 u.2.2.2.2.2.2.2.1) 16 u.2.2.2.2.2.2.2.2, y.2.2) : YS) = y1 at hw ⊢
  refine a_perm (ws' := WL (cxG X) A x1 B y1 M o f) (pl' := pl) (pw2 _ _ _ _).symm ?_
  refine a_icmp_eq (pc := 908) (tgt := 3322) C dL_law_908 (by decide) (fun _ => ?_) (fun c => absurd hw.1 c)
  exact a_widen (by omega) (by omega) (kk _ _ hw.2)
set_option maxRecDepth 20000 in
theorem lc_both {X : Ctx} {ka : KA} {b L : Nat} {xs : Nat → Int32} (C : Cok X cL_law 8 RL room_1 (FzL ka b L xs)) {k n : Nat} (hk : k + 1001 ≤ 601024) (hn : n + 6006 ≤ 7293033) {i : Int32} (hi : 0 ≤ i.toInt ∧ i.toInt + 10 ≤ L ∧ L ≤ 5120) {A B : Nat → Nat} {x : XS} {y : YS} {M : MK} {o : Nat} {f : Nat → Int64} {pl : Pool} {post : XS → YS → Prop} (hw : s1_both pl x y (xs (Int32.toNatClampNeg (i + 1))) (xs (Int32.toNatClampNeg (i + 2))) (xs (Int32.toNatClampNeg (i + 3))) (xs (Int32.toNatClampNeg (i + 4))) (xs (Int32.toNatClampNeg (i + 5))) (xs (Int32.toNatClampNeg (i + 6))) (xs (Int32.toNatClampNeg (i + 7))) post) (kk : ∀ x y, post x y → AW X 8 (k + 1001) (n + 6006) (WL (cxG X) A x B y M o f) pl 3322 [some (.ref b), some (.ref (A 0)), some (.ref (B 0)), some (.ref o), some (.int i), none, none, none] []) : AW X 8 k n (WL (cxG X) A x B y M o f) pl 913 [some (.ref b), some (.ref (A 0)), some (.ref (B 0)), some (.ref o), some (.int i), none, none, none] [] := by
  refine a_aload_n (pc := 913) (i := 1) C dL_law_913 rfl rfl ?_
  refine a_aload_n (pc := 914) (i := 0) C dL_law_914 rfl rfl ?_
  refine a_iload (pc := 915) (i := 4) C dL_law_915 rfl ?_
  refine a_iconst (pc := 917) (v := 1) C dL_law_917 rfl ?_
  refine a_iadd (pc := 918) C dL_law_918 ?_
  refine a_sld (pc := 919) C dL_law_919 (in_arg hi (by decide)) ?_
  refine a_aload_n (pc := 920) (i := 0) C dL_law_920 rfl rfl ?_
  refine a_iload (pc := 921) (i := 4) C dL_law_921 rfl ?_
  refine a_iconst (pc := 923) (v := 2) C dL_law_923 rfl ?_
  refine a_iadd (pc := 924) C dL_law_924 ?_
  refine a_sld (pc := 925) C dL_law_925 (in_arg hi (by decide)) ?_
  refine a_aload_n (pc := 926) (i := 0) C dL_law_926 rfl rfl ?_
  refine a_iload (pc := 927) (i := 4) C dL_law_927 rfl ?_
  refine a_iconst (pc := 929) (v := 3) C dL_law_929 rfl ?_
  refine a_iadd (pc := 930) C dL_law_930 ?_
  refine a_sld (pc := 931) C dL_law_931 (in_arg hi (by decide)) ?_
  refine a_aload_n (pc := 932) (i := 0) C dL_law_932 rfl rfl ?_
  refine a_iload (pc := 933) (i := 4) C dL_law_933 rfl ?_
  refine a_iconst (pc := 935) (v := 4) C dL_law_935 rfl ?_
  refine a_iadd (pc := 936) C dL_law_936 ?_
  refine a_sld (pc := 937) C dL_law_937 (in_arg hi (by decide)) ?_
  refine a_aload_n (pc := 938) (i := 0) C dL_law_938 rfl rfl ?_
  refine a_iload (pc := 939) (i := 4) C dL_law_939 rfl ?_
  refine a_iconst (pc := 941) (v := 5) C dL_law_941 rfl ?_
  refine a_iadd (pc := 942) C dL_law_942 ?_
  refine a_sld (pc := 943) C dL_law_943 (in_arg hi (by decide)) ?_
  refine a_aload_n (pc := 944) (i := 0) C dL_law_944 rfl rfl ?_
  refine a_iload (pc := 945) (i := 4) C dL_law_945 rfl ?_
  refine a_bipush (pc := 947) (v := 6) C dL_law_947 rfl ?_
  refine a_iadd (pc := 949) C dL_law_949 ?_
  refine a_sld (pc := 950) C dL_law_950 (in_arg hi (by decide)) ?_
  refine a_aload_n (pc := 951) (i := 0) C dL_law_951 rfl rfl ?_
  refine a_iload (pc := 952) (i := 4) C dL_law_952 rfl ?_
  refine a_bipush (pc := 954) (v := 7) C dL_law_954 rfl ?_
  refine a_iadd (pc := 956) C dL_law_956 ?_
  refine a_sld (pc := 957) C dL_law_957 (in_arg hi (by decide)) ?_
  refine a_perm (pw1 _ _ _) ?_
  refine a_xVi (pc := 958) (As := [.int (xs (Int32.toNatClampNeg (i + 1))), .int (xs (Int32.toNatClampNeg (i + 2))), .int (xs (Int32.toNatClampNeg (i + 3))), .int (xs (Int32.toNatClampNeg (i + 4))), .int (xs (Int32.toNatClampNeg (i + 5))), .int (xs (Int32.toNatClampNeg (i + 6))), .int (xs (Int32.toNatClampNeg (i + 7)))]) (st := []) C (k_X11_both (ka := ka) (post := fun r x => s2_both r x y (xs (Int32.toNatClampNeg (i + 1))) (xs (Int32.toNatClampNeg (i + 2))) (xs (Int32.toNatClampNeg (i + 3))) (xs (Int32.toNatClampNeg (i + 4))) (xs (Int32.toNatClampNeg (i + 5))) (xs (Int32.toNatClampNeg (i + 6))) (xs (Int32.toNatClampNeg (i + 7))) post) A (fun pl' hp => hw pl' (fun z hz => hp z (List.mem_append_right _ hz)))) dL_law_958 mth_X11_both tml_L_109 (fun _ _ h => h.1.1.1) (FzC_ok ka) (rmLw (Nat.le_of_ble_eq_true rfl) (Nat.le_of_ble_eq_true rfl) hk hn) (Nat.le_of_ble_eq_true rfl) rfl rfl (ci := 11) rfl ⟨0, _, rfl⟩ (m := 82) (fun _ => rfl) (fun r u hw => ?_)
  generalize ((u1 (u1 (u1 (u1 (u1 (u1 (u1 (u1 (u1 (u1 (u1 x.1 30 u.2.1) 31 u.2.2.1) 32 u.2.2.2.1) 33 u.2.2.2.2.1) 34 u.2.2.2.2.2.1) 35 u.2.2.2.2.2.2.1) 36 u.2.2.2.2.2.2.2.1) 37 u.2.2.2.2.2.2.2.2.1) 38 u.2.2.2.2.2.2.2.2.2.1) 39 u.2.2.2.2.2.2.2.2.2.2.1) 40 u.2.2.2.2.2.2.2.2.2.2.2.1, u1 x.2.1 21 u.2.2.2.2.2.2.2.2.2.2.2.2.2.2, u1 (u1 x.2.2.1 10 u.2.2.2.2.2.2.2.2.2.2.2.2.1) 11 u.2.2.2.2.2.2.2.2.2.2.2.2.2.1, x.2.2.2.1, u.1, x.2.2.2.2.2.1, x.2.2.2.2.2.2) : XS) = x1 at hw ⊢
  refine a_perm (ws' := WL (cxG X) A x1 B y M o f) (pl' := pl) (pw1 _ _ _).symm ?_
  show AW X 8 k n (WL (cxG X) A x1 B y M o f) pl 961 [some (.ref b), some (.ref (A 0)), some (.ref (B 0)), some (.ref o), some (.int i), none, none, none] [.int r]
  refine a_aload_n (pc := 961) (i := 2) C dL_law_961 rfl rfl ?_
  refine a_aload_n (pc := 962) (i := 0) C dL_law_962 rfl rfl ?_
  refine a_iload (pc := 963) (i := 4) C dL_law_963 rfl ?_
  refine a_iconst (pc := 965) (v := 1) C dL_law_965 rfl ?_
  refine a_iadd (pc := 966) C dL_law_966 ?_
  refine a_sld (pc := 967) C dL_law_967 (in_arg hi (by decide)) ?_
  refine a_aload_n (pc := 968) (i := 0) C dL_law_968 rfl rfl ?_
  refine a_iload (pc := 969) (i := 4) C dL_law_969 rfl ?_
  refine a_iconst (pc := 971) (v := 2) C dL_law_971 rfl ?_
  refine a_iadd (pc := 972) C dL_law_972 ?_
  refine a_sld (pc := 973) C dL_law_973 (in_arg hi (by decide)) ?_
  refine a_aload_n (pc := 974) (i := 0) C dL_law_974 rfl rfl ?_
  refine a_iload (pc := 975) (i := 4) C dL_law_975 rfl ?_
  refine a_iconst (pc := 977) (v := 3) C dL_law_977 rfl ?_
  refine a_iadd (pc := 978) C dL_law_978 ?_
  refine a_sld (pc := 979) C dL_law_979 (in_arg hi (by decide)) ?_
  refine a_aload_n (pc := 980) (i := 0) C dL_law_980 rfl rfl ?_
  refine a_iload (pc := 981) (i := 4) C dL_law_981 rfl ?_
  refine a_iconst (pc := 983) (v := 4) C dL_law_983 rfl ?_
  refine a_iadd (pc := 984) C dL_law_984 ?_
  refine a_sld (pc := 985) C dL_law_985 (in_arg hi (by decide)) ?_
  refine a_aload_n (pc := 986) (i := 0) C dL_law_986 rfl rfl ?_
  refine a_iload (pc := 987) (i := 4) C dL_law_987 rfl ?_
  refine a_iconst (pc := 989) (v := 5) C dL_law_989 rfl ?_
  refine a_iadd (pc := 990) C dL_law_990 ?_
  refine a_sld (pc := 991) C dL_law_991 (in_arg hi (by decide)) ?_
  refine a_aload_n (pc := 992) (i := 0) C dL_law_992 rfl rfl ?_
  refine a_iload (pc := 993) (i := 4) C dL_law_993 rfl ?_
  refine a_bipush (pc := 995) (v := 6) C dL_law_995 rfl ?_
  refine a_iadd (pc := 997) C dL_law_997 ?_
  refine a_sld (pc := 998) C dL_law_998 (in_arg hi (by decide)) ?_
  refine a_aload_n (pc := 999) (i := 0) C dL_law_999 rfl rfl ?_
  refine a_iload (pc := 1000) (i := 4) C dL_law_1000 rfl ?_
  refine a_bipush (pc := 1002) (v := 7) C dL_law_1002 rfl ?_
  refine a_iadd (pc := 1004) C dL_law_1004 ?_
  refine a_sld (pc := 1005) C dL_law_1005 (in_arg hi (by decide)) ?_
  refine a_perm (pw2 _ _ _ _) ?_
  refine a_xVi (pc := 1006) (As := [.int (xs (Int32.toNatClampNeg (i + 1))), .int (xs (Int32.toNatClampNeg (i + 2))), .int (xs (Int32.toNatClampNeg (i + 3))), .int (xs (Int32.toNatClampNeg (i + 4))), .int (xs (Int32.toNatClampNeg (i + 5))), .int (xs (Int32.toNatClampNeg (i + 6))), .int (xs (Int32.toNatClampNeg (i + 7)))]) (st := [.int r]) C (k_X12_both_ (post := fun r2 y => r = r2 ∧ post x1 y) B hw) dL_law_1006 mth_X12_both_ tml_L_112 (fun _ _ _ => trivial) Fz0_ok (rmLw (Nat.le_of_ble_eq_true rfl) (Nat.le_of_ble_eq_true rfl) hk hn) (Nat.le_of_ble_eq_true rfl) rfl rfl (ci := 12) rfl ⟨0, _, rfl⟩ (m := 30) (fun _ => rfl) (fun r2 u hw => ?_)
  generalize ((u1 (u1 y.1 0 u.1) 6 u.2.1, u1 (u1 (u1 (u1 (u1 (u1 (u1 y.2.1 10 u.2.2.1) 8 u.2.2.2.1) 9 u.2.2.2.2.1) 6 u.2.2.2.2.2.1) 7 u.2.2.2.2.2.2.1) 11 u.2.2.2.2.2.2.2.1) 16 u.2.2.2.2.2.2.2.2, y.2.2) : YS) = y1 at hw ⊢
  refine a_perm (ws' := WL (cxG X) A x1 B y1 M o f) (pl' := pl) (pw2 _ _ _ _).symm ?_
  refine a_icmp_eq (pc := 1009) (tgt := 3322) C dL_law_1009 (by decide) (fun _ => ?_) (fun c => absurd hw.1 c)
  exact a_widen (by omega) (by omega) (kk _ _ hw.2)
set_option maxRecDepth 20000 in
theorem lc_bears {X : Ctx} {ka : KA} {b L : Nat} {xs : Nat → Int32} (C : Cok X cL_law 8 RL room_1 (FzL ka b L xs)) {k n : Nat} (hk : k + 1001 ≤ 601024) (hn : n + 6006 ≤ 7293033) {i : Int32} (hi : 0 ≤ i.toInt ∧ i.toInt + 10 ≤ L ∧ L ≤ 5120) {A B : Nat → Nat} {x : XS} {y : YS} {M : MK} {o : Nat} {f : Nat → Int64} {pl : Pool} {post : XS → YS → Prop} (hw : s1_bears pl x y (xs (Int32.toNatClampNeg (i + 1))) (xs (Int32.toNatClampNeg (i + 2))) (xs (Int32.toNatClampNeg (i + 3))) (xs (Int32.toNatClampNeg (i + 4))) (xs (Int32.toNatClampNeg (i + 5))) post) (kk : ∀ x y, post x y → AW X 8 (k + 1001) (n + 6006) (WL (cxG X) A x B y M o f) pl 3322 [some (.ref b), some (.ref (A 0)), some (.ref (B 0)), some (.ref o), some (.int i), none, none, none] []) : AW X 8 k n (WL (cxG X) A x B y M o f) pl 1014 [some (.ref b), some (.ref (A 0)), some (.ref (B 0)), some (.ref o), some (.int i), none, none, none] [] := by
  refine a_aload_n (pc := 1014) (i := 1) C dL_law_1014 rfl rfl ?_
  refine a_aload_n (pc := 1015) (i := 0) C dL_law_1015 rfl rfl ?_
  refine a_iload (pc := 1016) (i := 4) C dL_law_1016 rfl ?_
  refine a_iconst (pc := 1018) (v := 1) C dL_law_1018 rfl ?_
  refine a_iadd (pc := 1019) C dL_law_1019 ?_
  refine a_sld (pc := 1020) C dL_law_1020 (in_arg hi (by decide)) ?_
  refine a_aload_n (pc := 1021) (i := 0) C dL_law_1021 rfl rfl ?_
  refine a_iload (pc := 1022) (i := 4) C dL_law_1022 rfl ?_
  refine a_iconst (pc := 1024) (v := 2) C dL_law_1024 rfl ?_
  refine a_iadd (pc := 1025) C dL_law_1025 ?_
  refine a_sld (pc := 1026) C dL_law_1026 (in_arg hi (by decide)) ?_
  refine a_aload_n (pc := 1027) (i := 0) C dL_law_1027 rfl rfl ?_
  refine a_iload (pc := 1028) (i := 4) C dL_law_1028 rfl ?_
  refine a_iconst (pc := 1030) (v := 3) C dL_law_1030 rfl ?_
  refine a_iadd (pc := 1031) C dL_law_1031 ?_
  refine a_sld (pc := 1032) C dL_law_1032 (in_arg hi (by decide)) ?_
  refine a_aload_n (pc := 1033) (i := 0) C dL_law_1033 rfl rfl ?_
  refine a_iload (pc := 1034) (i := 4) C dL_law_1034 rfl ?_
  refine a_iconst (pc := 1036) (v := 4) C dL_law_1036 rfl ?_
  refine a_iadd (pc := 1037) C dL_law_1037 ?_
  refine a_sld (pc := 1038) C dL_law_1038 (in_arg hi (by decide)) ?_
  refine a_aload_n (pc := 1039) (i := 0) C dL_law_1039 rfl rfl ?_
  refine a_iload (pc := 1040) (i := 4) C dL_law_1040 rfl ?_
  refine a_iconst (pc := 1042) (v := 5) C dL_law_1042 rfl ?_
  refine a_iadd (pc := 1043) C dL_law_1043 ?_
  refine a_sld (pc := 1044) C dL_law_1044 (in_arg hi (by decide)) ?_
  refine a_perm (pw1 _ _ _) ?_
  refine a_xVi (pc := 1045) (As := [.int (xs (Int32.toNatClampNeg (i + 1))), .int (xs (Int32.toNatClampNeg (i + 2))), .int (xs (Int32.toNatClampNeg (i + 3))), .int (xs (Int32.toNatClampNeg (i + 4))), .int (xs (Int32.toNatClampNeg (i + 5)))]) (st := []) C (k_X11_bears (ka := ka) (post := fun r x => s2_bears r x y (xs (Int32.toNatClampNeg (i + 1))) (xs (Int32.toNatClampNeg (i + 2))) (xs (Int32.toNatClampNeg (i + 3))) (xs (Int32.toNatClampNeg (i + 4))) (xs (Int32.toNatClampNeg (i + 5))) post) A (fun pl' hp => hw pl' (fun z hz => hp z (List.mem_append_right _ hz)))) dL_law_1045 mth_X11_bears tml_L_113 (fun _ _ h => h.1.1.1) (FzC_ok ka) (rmLw (Nat.le_of_ble_eq_true rfl) (Nat.le_of_ble_eq_true rfl) hk hn) (Nat.le_of_ble_eq_true rfl) rfl rfl (ci := 11) rfl ⟨0, _, rfl⟩ (m := 82) (fun _ => rfl) (fun r u hw => ?_)
  generalize ((u1 (u1 (u1 (u1 (u1 (u1 (u1 (u1 (u1 (u1 (u1 x.1 30 u.2.1) 31 u.2.2.1) 32 u.2.2.2.1) 33 u.2.2.2.2.1) 34 u.2.2.2.2.2.1) 35 u.2.2.2.2.2.2.1) 36 u.2.2.2.2.2.2.2.1) 37 u.2.2.2.2.2.2.2.2.1) 38 u.2.2.2.2.2.2.2.2.2.1) 39 u.2.2.2.2.2.2.2.2.2.2.1) 40 u.2.2.2.2.2.2.2.2.2.2.2.1, u1 x.2.1 21 u.2.2.2.2.2.2.2.2.2.2.2.2.2.2, u1 (u1 x.2.2.1 10 u.2.2.2.2.2.2.2.2.2.2.2.2.1) 11 u.2.2.2.2.2.2.2.2.2.2.2.2.2.1, x.2.2.2.1, u.1, x.2.2.2.2.2.1, x.2.2.2.2.2.2) : XS) = x1 at hw ⊢
  refine a_perm (ws' := WL (cxG X) A x1 B y M o f) (pl' := pl) (pw1 _ _ _).symm ?_
  show AW X 8 k n (WL (cxG X) A x1 B y M o f) pl 1048 [some (.ref b), some (.ref (A 0)), some (.ref (B 0)), some (.ref o), some (.int i), none, none, none] [.int r]
  refine a_aload_n (pc := 1048) (i := 2) C dL_law_1048 rfl rfl ?_
  refine a_aload_n (pc := 1049) (i := 0) C dL_law_1049 rfl rfl ?_
  refine a_iload (pc := 1050) (i := 4) C dL_law_1050 rfl ?_
  refine a_iconst (pc := 1052) (v := 1) C dL_law_1052 rfl ?_
  refine a_iadd (pc := 1053) C dL_law_1053 ?_
  refine a_sld (pc := 1054) C dL_law_1054 (in_arg hi (by decide)) ?_
  refine a_aload_n (pc := 1055) (i := 0) C dL_law_1055 rfl rfl ?_
  refine a_iload (pc := 1056) (i := 4) C dL_law_1056 rfl ?_
  refine a_iconst (pc := 1058) (v := 2) C dL_law_1058 rfl ?_
  refine a_iadd (pc := 1059) C dL_law_1059 ?_
  refine a_sld (pc := 1060) C dL_law_1060 (in_arg hi (by decide)) ?_
  refine a_aload_n (pc := 1061) (i := 0) C dL_law_1061 rfl rfl ?_
  refine a_iload (pc := 1062) (i := 4) C dL_law_1062 rfl ?_
  refine a_iconst (pc := 1064) (v := 3) C dL_law_1064 rfl ?_
  refine a_iadd (pc := 1065) C dL_law_1065 ?_
  refine a_sld (pc := 1066) C dL_law_1066 (in_arg hi (by decide)) ?_
  refine a_aload_n (pc := 1067) (i := 0) C dL_law_1067 rfl rfl ?_
  refine a_iload (pc := 1068) (i := 4) C dL_law_1068 rfl ?_
  refine a_iconst (pc := 1070) (v := 4) C dL_law_1070 rfl ?_
  refine a_iadd (pc := 1071) C dL_law_1071 ?_
  refine a_sld (pc := 1072) C dL_law_1072 (in_arg hi (by decide)) ?_
  refine a_aload_n (pc := 1073) (i := 0) C dL_law_1073 rfl rfl ?_
  refine a_iload (pc := 1074) (i := 4) C dL_law_1074 rfl ?_
  refine a_iconst (pc := 1076) (v := 5) C dL_law_1076 rfl ?_
  refine a_iadd (pc := 1077) C dL_law_1077 ?_
  refine a_sld (pc := 1078) C dL_law_1078 (in_arg hi (by decide)) ?_
  refine a_perm (pw2 _ _ _ _) ?_
  refine a_xVi (pc := 1079) (As := [.int (xs (Int32.toNatClampNeg (i + 1))), .int (xs (Int32.toNatClampNeg (i + 2))), .int (xs (Int32.toNatClampNeg (i + 3))), .int (xs (Int32.toNatClampNeg (i + 4))), .int (xs (Int32.toNatClampNeg (i + 5)))]) (st := [.int r]) C (k_X12_bears (post := fun r2 y => r = r2 ∧ post x1 y) B hw) dL_law_1079 mth_X12_bears tml_L_116 (fun _ _ _ => trivial) Fz0_ok (rmLw (Nat.le_of_ble_eq_true rfl) (Nat.le_of_ble_eq_true rfl) hk hn) (Nat.le_of_ble_eq_true rfl) rfl rfl (ci := 12) rfl ⟨0, _, rfl⟩ (m := 30) (fun _ => rfl) (fun r2 u hw => ?_)
  generalize ((u1 (u1 y.1 0 u.1) 6 u.2.1, u1 (u1 (u1 (u1 (u1 (u1 y.2.1 10 u.2.2.1) 8 u.2.2.2.1) 9 u.2.2.2.2.1) 6 u.2.2.2.2.2.1) 7 u.2.2.2.2.2.2.1) 16 u.2.2.2.2.2.2.2, y.2.2) : YS) = y1 at hw ⊢
  refine a_perm (ws' := WL (cxG X) A x1 B y1 M o f) (pl' := pl) (pw2 _ _ _ _).symm ?_
  refine a_icmp_eq (pc := 1082) (tgt := 3322) C dL_law_1082 (by decide) (fun _ => ?_) (fun c => absurd hw.1 c)
  exact a_widen (by omega) (by omega) (kk _ _ hw.2)
set_option maxRecDepth 20000 in
theorem lc_hours {X : Ctx} {ka : KA} {b L : Nat} {xs : Nat → Int32} (C : Cok X cL_law 8 RL room_1 (FzL ka b L xs)) {k n : Nat} (hk : k + 1001 ≤ 601024) (hn : n + 6006 ≤ 7293033) {i : Int32} (hi : 0 ≤ i.toInt ∧ i.toInt + 10 ≤ L ∧ L ≤ 5120) {A B : Nat → Nat} {x : XS} {y : YS} {M : MK} {o : Nat} {f : Nat → Int64} {pl : Pool} {post : XS → YS → Prop} (hw : s1_hours pl x y (xs (Int32.toNatClampNeg (i + 1))) (xs (Int32.toNatClampNeg (i + 2))) (xs (Int32.toNatClampNeg (i + 3))) (xs (Int32.toNatClampNeg (i + 4))) post) (kk : ∀ x y, post x y → AW X 8 (k + 1001) (n + 6006) (WL (cxG X) A x B y M o f) pl 3322 [some (.ref b), some (.ref (A 0)), some (.ref (B 0)), some (.ref o), some (.int i), none, none, none] []) : AW X 8 k n (WL (cxG X) A x B y M o f) pl 1087 [some (.ref b), some (.ref (A 0)), some (.ref (B 0)), some (.ref o), some (.int i), none, none, none] [] := by
  refine a_aload_n (pc := 1087) (i := 1) C dL_law_1087 rfl rfl ?_
  refine a_aload_n (pc := 1088) (i := 0) C dL_law_1088 rfl rfl ?_
  refine a_iload (pc := 1089) (i := 4) C dL_law_1089 rfl ?_
  refine a_iconst (pc := 1091) (v := 1) C dL_law_1091 rfl ?_
  refine a_iadd (pc := 1092) C dL_law_1092 ?_
  refine a_sld (pc := 1093) C dL_law_1093 (in_arg hi (by decide)) ?_
  refine a_aload_n (pc := 1094) (i := 0) C dL_law_1094 rfl rfl ?_
  refine a_iload (pc := 1095) (i := 4) C dL_law_1095 rfl ?_
  refine a_iconst (pc := 1097) (v := 2) C dL_law_1097 rfl ?_
  refine a_iadd (pc := 1098) C dL_law_1098 ?_
  refine a_sld (pc := 1099) C dL_law_1099 (in_arg hi (by decide)) ?_
  refine a_aload_n (pc := 1100) (i := 0) C dL_law_1100 rfl rfl ?_
  refine a_iload (pc := 1101) (i := 4) C dL_law_1101 rfl ?_
  refine a_iconst (pc := 1103) (v := 3) C dL_law_1103 rfl ?_
  refine a_iadd (pc := 1104) C dL_law_1104 ?_
  refine a_sld (pc := 1105) C dL_law_1105 (in_arg hi (by decide)) ?_
  refine a_aload_n (pc := 1106) (i := 0) C dL_law_1106 rfl rfl ?_
  refine a_iload (pc := 1107) (i := 4) C dL_law_1107 rfl ?_
  refine a_iconst (pc := 1109) (v := 4) C dL_law_1109 rfl ?_
  refine a_iadd (pc := 1110) C dL_law_1110 ?_
  refine a_sld (pc := 1111) C dL_law_1111 (in_arg hi (by decide)) ?_
  refine a_perm (pw1 _ _ _) ?_
  refine a_xVi (pc := 1112) (As := [.int (xs (Int32.toNatClampNeg (i + 1))), .int (xs (Int32.toNatClampNeg (i + 2))), .int (xs (Int32.toNatClampNeg (i + 3))), .int (xs (Int32.toNatClampNeg (i + 4)))]) (st := []) C (k_X11_hours (ka := ka) (post := fun r x => s2_hours r x y (xs (Int32.toNatClampNeg (i + 1))) (xs (Int32.toNatClampNeg (i + 2))) (xs (Int32.toNatClampNeg (i + 3))) (xs (Int32.toNatClampNeg (i + 4))) post) A (fun pl' hp => hw pl' (fun z hz => hp z (List.mem_append_right _ hz)))) dL_law_1112 mth_X11_hours tml_L_117 (fun _ _ h => h.1.1.1) (FzC_ok ka) (rmLw (Nat.le_of_ble_eq_true rfl) (Nat.le_of_ble_eq_true rfl) hk hn) (Nat.le_of_ble_eq_true rfl) rfl rfl (ci := 11) rfl ⟨0, _, rfl⟩ (m := 82) (fun _ => rfl) (fun r u hw => ?_)
  generalize ((u1 (u1 (u1 (u1 (u1 (u1 (u1 (u1 x.1 30 u.2.1) 31 u.2.2.1) 32 u.2.2.2.1) 33 u.2.2.2.2.1) 34 u.2.2.2.2.2.1) 35 u.2.2.2.2.2.2.1) 36 u.2.2.2.2.2.2.2.1) 37 u.2.2.2.2.2.2.2.2.1, u1 x.2.1 22 u.2.2.2.2.2.2.2.2.2.2, u1 x.2.2.1 10 u.2.2.2.2.2.2.2.2.2.1, x.2.2.2.1, u.1, x.2.2.2.2.2.1, x.2.2.2.2.2.2) : XS) = x1 at hw ⊢
  refine a_perm (ws' := WL (cxG X) A x1 B y M o f) (pl' := pl) (pw1 _ _ _).symm ?_
  show AW X 8 k n (WL (cxG X) A x1 B y M o f) pl 1115 [some (.ref b), some (.ref (A 0)), some (.ref (B 0)), some (.ref o), some (.int i), none, none, none] [.int r]
  refine a_aload_n (pc := 1115) (i := 2) C dL_law_1115 rfl rfl ?_
  refine a_aload_n (pc := 1116) (i := 0) C dL_law_1116 rfl rfl ?_
  refine a_iload (pc := 1117) (i := 4) C dL_law_1117 rfl ?_
  refine a_iconst (pc := 1119) (v := 1) C dL_law_1119 rfl ?_
  refine a_iadd (pc := 1120) C dL_law_1120 ?_
  refine a_sld (pc := 1121) C dL_law_1121 (in_arg hi (by decide)) ?_
  refine a_aload_n (pc := 1122) (i := 0) C dL_law_1122 rfl rfl ?_
  refine a_iload (pc := 1123) (i := 4) C dL_law_1123 rfl ?_
  refine a_iconst (pc := 1125) (v := 2) C dL_law_1125 rfl ?_
  refine a_iadd (pc := 1126) C dL_law_1126 ?_
  refine a_sld (pc := 1127) C dL_law_1127 (in_arg hi (by decide)) ?_
  refine a_aload_n (pc := 1128) (i := 0) C dL_law_1128 rfl rfl ?_
  refine a_iload (pc := 1129) (i := 4) C dL_law_1129 rfl ?_
  refine a_iconst (pc := 1131) (v := 3) C dL_law_1131 rfl ?_
  refine a_iadd (pc := 1132) C dL_law_1132 ?_
  refine a_sld (pc := 1133) C dL_law_1133 (in_arg hi (by decide)) ?_
  refine a_aload_n (pc := 1134) (i := 0) C dL_law_1134 rfl rfl ?_
  refine a_iload (pc := 1135) (i := 4) C dL_law_1135 rfl ?_
  refine a_iconst (pc := 1137) (v := 4) C dL_law_1137 rfl ?_
  refine a_iadd (pc := 1138) C dL_law_1138 ?_
  refine a_sld (pc := 1139) C dL_law_1139 (in_arg hi (by decide)) ?_
  refine a_perm (pw2 _ _ _ _) ?_
  refine a_xVi (pc := 1140) (As := [.int (xs (Int32.toNatClampNeg (i + 1))), .int (xs (Int32.toNatClampNeg (i + 2))), .int (xs (Int32.toNatClampNeg (i + 3))), .int (xs (Int32.toNatClampNeg (i + 4)))]) (st := [.int r]) C (k_X12_hours (post := fun r2 y => r = r2 ∧ post x1 y) B hw) dL_law_1140 mth_X12_hours tml_L_121 (fun _ _ _ => trivial) Fz0_ok (rmLw (Nat.le_of_ble_eq_true rfl) (Nat.le_of_ble_eq_true rfl) hk hn) (Nat.le_of_ble_eq_true rfl) rfl rfl (ci := 12) rfl ⟨0, _, rfl⟩ (m := 30) (fun _ => rfl) (fun r2 u hw => ?_)
  generalize ((u1 (u1 y.1 0 u.1) 6 u.2.1, u1 (u1 (u1 (u1 (u1 (u1 y.2.1 10 u.2.2.1) 8 u.2.2.2.1) 9 u.2.2.2.2.1) 6 u.2.2.2.2.2.1) 7 u.2.2.2.2.2.2.1) 16 u.2.2.2.2.2.2.2, y.2.2) : YS) = y1 at hw ⊢
  refine a_perm (ws' := WL (cxG X) A x1 B y1 M o f) (pl' := pl) (pw2 _ _ _ _).symm ?_
  refine a_icmp_eq (pc := 1143) (tgt := 3322) C dL_law_1143 (by decide) (fun _ => ?_) (fun c => absurd hw.1 c)
  exact a_widen (by omega) (by omega) (kk _ _ hw.2)
set_option maxRecDepth 20000 in
theorem lc_ice {X : Ctx} {ka : KA} {b L : Nat} {xs : Nat → Int32} (C : Cok X cL_law 8 RL room_1 (FzL ka b L xs)) {k n : Nat} (hk : k + 1001 ≤ 601024) (hn : n + 6006 ≤ 7293033) {i : Int32} (hi : 0 ≤ i.toInt ∧ i.toInt + 10 ≤ L ∧ L ≤ 5120) {A B : Nat → Nat} {x : XS} {y : YS} {M : MK} {o : Nat} {f : Nat → Int64} {pl : Pool} {post : XS → YS → Prop} (hw : s1_ice pl x y (xs (Int32.toNatClampNeg (i + 1))) (xs (Int32.toNatClampNeg (i + 2))) (xs (Int32.toNatClampNeg (i + 3))) (xs (Int32.toNatClampNeg (i + 4))) (xs (Int32.toNatClampNeg (i + 5))) post) (kk : ∀ x y, post x y → AW X 8 (k + 1001) (n + 6006) (WL (cxG X) A x B y M o f) pl 3322 [some (.ref b), some (.ref (A 0)), some (.ref (B 0)), some (.ref o), some (.int i), none, none, none] []) : AW X 8 k n (WL (cxG X) A x B y M o f) pl 1148 [some (.ref b), some (.ref (A 0)), some (.ref (B 0)), some (.ref o), some (.int i), none, none, none] [] := by
  refine a_aload_n (pc := 1148) (i := 1) C dL_law_1148 rfl rfl ?_
  refine a_aload_n (pc := 1149) (i := 0) C dL_law_1149 rfl rfl ?_
  refine a_iload (pc := 1150) (i := 4) C dL_law_1150 rfl ?_
  refine a_iconst (pc := 1152) (v := 1) C dL_law_1152 rfl ?_
  refine a_iadd (pc := 1153) C dL_law_1153 ?_
  refine a_sld (pc := 1154) C dL_law_1154 (in_arg hi (by decide)) ?_
  refine a_aload_n (pc := 1155) (i := 0) C dL_law_1155 rfl rfl ?_
  refine a_iload (pc := 1156) (i := 4) C dL_law_1156 rfl ?_
  refine a_iconst (pc := 1158) (v := 2) C dL_law_1158 rfl ?_
  refine a_iadd (pc := 1159) C dL_law_1159 ?_
  refine a_sld (pc := 1160) C dL_law_1160 (in_arg hi (by decide)) ?_
  refine a_aload_n (pc := 1161) (i := 0) C dL_law_1161 rfl rfl ?_
  refine a_iload (pc := 1162) (i := 4) C dL_law_1162 rfl ?_
  refine a_iconst (pc := 1164) (v := 3) C dL_law_1164 rfl ?_
  refine a_iadd (pc := 1165) C dL_law_1165 ?_
  refine a_sld (pc := 1166) C dL_law_1166 (in_arg hi (by decide)) ?_
  refine a_aload_n (pc := 1167) (i := 0) C dL_law_1167 rfl rfl ?_
  refine a_iload (pc := 1168) (i := 4) C dL_law_1168 rfl ?_
  refine a_iconst (pc := 1170) (v := 4) C dL_law_1170 rfl ?_
  refine a_iadd (pc := 1171) C dL_law_1171 ?_
  refine a_sld (pc := 1172) C dL_law_1172 (in_arg hi (by decide)) ?_
  refine a_aload_n (pc := 1173) (i := 0) C dL_law_1173 rfl rfl ?_
  refine a_iload (pc := 1174) (i := 4) C dL_law_1174 rfl ?_
  refine a_iconst (pc := 1176) (v := 5) C dL_law_1176 rfl ?_
  refine a_iadd (pc := 1177) C dL_law_1177 ?_
  refine a_sld (pc := 1178) C dL_law_1178 (in_arg hi (by decide)) ?_
  refine a_perm (pw1 _ _ _) ?_
  refine a_xVi (pc := 1179) (As := [.int (xs (Int32.toNatClampNeg (i + 1))), .int (xs (Int32.toNatClampNeg (i + 2))), .int (xs (Int32.toNatClampNeg (i + 3))), .int (xs (Int32.toNatClampNeg (i + 4))), .int (xs (Int32.toNatClampNeg (i + 5)))]) (st := []) C (k_X11_ice (ka := ka) (post := fun r x => s2_ice r x y (xs (Int32.toNatClampNeg (i + 1))) (xs (Int32.toNatClampNeg (i + 2))) (xs (Int32.toNatClampNeg (i + 3))) (xs (Int32.toNatClampNeg (i + 4))) (xs (Int32.toNatClampNeg (i + 5))) post) A (fun pl' hp => hw pl' (fun z hz => hp z (List.mem_append_right _ hz)))) dL_law_1179 mth_X11_ice tml_L_122 (fun _ _ h => h.1.1.1) (FzC_ok ka) (rmLw (Nat.le_of_ble_eq_true rfl) (Nat.le_of_ble_eq_true rfl) hk hn) (Nat.le_of_ble_eq_true rfl) rfl rfl (ci := 11) rfl ⟨0, _, rfl⟩ (m := 82) (fun _ => rfl) (fun r u hw => ?_)
  generalize ((u1 (u1 (u1 (u1 (u1 (u1 (u1 (u1 (u1 (u1 (u1 x.1 30 u.2.1) 31 u.2.2.1) 32 u.2.2.2.1) 33 u.2.2.2.2.1) 34 u.2.2.2.2.2.1) 35 u.2.2.2.2.2.2.1) 36 u.2.2.2.2.2.2.2.1) 37 u.2.2.2.2.2.2.2.2.1) 38 u.2.2.2.2.2.2.2.2.2.1) 39 u.2.2.2.2.2.2.2.2.2.2.1) 40 u.2.2.2.2.2.2.2.2.2.2.2.1, u1 x.2.1 21 u.2.2.2.2.2.2.2.2.2.2.2.2.2.2, u1 (u1 x.2.2.1 10 u.2.2.2.2.2.2.2.2.2.2.2.2.1) 11 u.2.2.2.2.2.2.2.2.2.2.2.2.2.1, x.2.2.2.1, u.1, x.2.2.2.2.2.1, x.2.2.2.2.2.2) : XS) = x1 at hw ⊢
  refine a_perm (ws' := WL (cxG X) A x1 B y M o f) (pl' := pl) (pw1 _ _ _).symm ?_
  show AW X 8 k n (WL (cxG X) A x1 B y M o f) pl 1182 [some (.ref b), some (.ref (A 0)), some (.ref (B 0)), some (.ref o), some (.int i), none, none, none] [.int r]
  refine a_aload_n (pc := 1182) (i := 2) C dL_law_1182 rfl rfl ?_
  refine a_aload_n (pc := 1183) (i := 0) C dL_law_1183 rfl rfl ?_
  refine a_iload (pc := 1184) (i := 4) C dL_law_1184 rfl ?_
  refine a_iconst (pc := 1186) (v := 1) C dL_law_1186 rfl ?_
  refine a_iadd (pc := 1187) C dL_law_1187 ?_
  refine a_sld (pc := 1188) C dL_law_1188 (in_arg hi (by decide)) ?_
  refine a_aload_n (pc := 1189) (i := 0) C dL_law_1189 rfl rfl ?_
  refine a_iload (pc := 1190) (i := 4) C dL_law_1190 rfl ?_
  refine a_iconst (pc := 1192) (v := 2) C dL_law_1192 rfl ?_
  refine a_iadd (pc := 1193) C dL_law_1193 ?_
  refine a_sld (pc := 1194) C dL_law_1194 (in_arg hi (by decide)) ?_
  refine a_aload_n (pc := 1195) (i := 0) C dL_law_1195 rfl rfl ?_
  refine a_iload (pc := 1196) (i := 4) C dL_law_1196 rfl ?_
  refine a_iconst (pc := 1198) (v := 3) C dL_law_1198 rfl ?_
  refine a_iadd (pc := 1199) C dL_law_1199 ?_
  refine a_sld (pc := 1200) C dL_law_1200 (in_arg hi (by decide)) ?_
  refine a_aload_n (pc := 1201) (i := 0) C dL_law_1201 rfl rfl ?_
  refine a_iload (pc := 1202) (i := 4) C dL_law_1202 rfl ?_
  refine a_iconst (pc := 1204) (v := 4) C dL_law_1204 rfl ?_
  refine a_iadd (pc := 1205) C dL_law_1205 ?_
  refine a_sld (pc := 1206) C dL_law_1206 (in_arg hi (by decide)) ?_
  refine a_aload_n (pc := 1207) (i := 0) C dL_law_1207 rfl rfl ?_
  refine a_iload (pc := 1208) (i := 4) C dL_law_1208 rfl ?_
  refine a_iconst (pc := 1210) (v := 5) C dL_law_1210 rfl ?_
  refine a_iadd (pc := 1211) C dL_law_1211 ?_
  refine a_sld (pc := 1212) C dL_law_1212 (in_arg hi (by decide)) ?_
  refine a_perm (pw2 _ _ _ _) ?_
  refine a_xVi (pc := 1213) (As := [.int (xs (Int32.toNatClampNeg (i + 1))), .int (xs (Int32.toNatClampNeg (i + 2))), .int (xs (Int32.toNatClampNeg (i + 3))), .int (xs (Int32.toNatClampNeg (i + 4))), .int (xs (Int32.toNatClampNeg (i + 5)))]) (st := [.int r]) C (k_X12_ice (post := fun r2 y => r = r2 ∧ post x1 y) B hw) dL_law_1213 mth_X12_ice tml_L_125 (fun _ _ _ => trivial) Fz0_ok (rmLw (Nat.le_of_ble_eq_true rfl) (Nat.le_of_ble_eq_true rfl) hk hn) (Nat.le_of_ble_eq_true rfl) rfl rfl (ci := 12) rfl ⟨0, _, rfl⟩ (m := 30) (fun _ => rfl) (fun r2 u hw => ?_)
  generalize ((u1 (u1 y.1 0 u.1) 6 u.2.1, u1 (u1 (u1 (u1 (u1 (u1 (u1 (u1 y.2.1 10 u.2.2.1) 8 u.2.2.2.1) 9 u.2.2.2.2.1) 6 u.2.2.2.2.2.1) 7 u.2.2.2.2.2.2.1) 11 u.2.2.2.2.2.2.2.1) 12 u.2.2.2.2.2.2.2.2.1) 13 u.2.2.2.2.2.2.2.2.2, y.2.2) : YS) = y1 at hw ⊢
  refine a_perm (ws' := WL (cxG X) A x1 B y1 M o f) (pl' := pl) (pw2 _ _ _ _).symm ?_
  refine a_icmp_eq (pc := 1216) (tgt := 3322) C dL_law_1216 (by decide) (fun _ => ?_) (fun c => absurd hw.1 c)
  exact a_widen (by omega) (by omega) (kk _ _ hw.2)
set_option maxRecDepth 20000 in
theorem lc_pays {X : Ctx} {ka : KA} {b L : Nat} {xs : Nat → Int32} (C : Cok X cL_law 8 RL room_1 (FzL ka b L xs)) {k n : Nat} (hk : k + 1001 ≤ 601024) (hn : n + 6006 ≤ 7293033) {i : Int32} (hi : 0 ≤ i.toInt ∧ i.toInt + 10 ≤ L ∧ L ≤ 5120) {A B : Nat → Nat} {x : XS} {y : YS} {M : MK} {o : Nat} {f : Nat → Int64} {pl : Pool} {post : XS → YS → Prop} (hw : s1_pays pl x y (xs (Int32.toNatClampNeg (i + 1))) (xs (Int32.toNatClampNeg (i + 2))) (xs (Int32.toNatClampNeg (i + 3))) (xs (Int32.toNatClampNeg (i + 4))) (xs (Int32.toNatClampNeg (i + 5))) post) (kk : ∀ x y, post x y → AW X 8 (k + 1001) (n + 6006) (WL (cxG X) A x B y M o f) pl 3322 [some (.ref b), some (.ref (A 0)), some (.ref (B 0)), some (.ref o), some (.int i), none, none, none] []) : AW X 8 k n (WL (cxG X) A x B y M o f) pl 1221 [some (.ref b), some (.ref (A 0)), some (.ref (B 0)), some (.ref o), some (.int i), none, none, none] [] := by
  refine a_aload_n (pc := 1221) (i := 1) C dL_law_1221 rfl rfl ?_
  refine a_aload_n (pc := 1222) (i := 0) C dL_law_1222 rfl rfl ?_
  refine a_iload (pc := 1223) (i := 4) C dL_law_1223 rfl ?_
  refine a_iconst (pc := 1225) (v := 1) C dL_law_1225 rfl ?_
  refine a_iadd (pc := 1226) C dL_law_1226 ?_
  refine a_sld (pc := 1227) C dL_law_1227 (in_arg hi (by decide)) ?_
  refine a_aload_n (pc := 1228) (i := 0) C dL_law_1228 rfl rfl ?_
  refine a_iload (pc := 1229) (i := 4) C dL_law_1229 rfl ?_
  refine a_iconst (pc := 1231) (v := 2) C dL_law_1231 rfl ?_
  refine a_iadd (pc := 1232) C dL_law_1232 ?_
  refine a_sld (pc := 1233) C dL_law_1233 (in_arg hi (by decide)) ?_
  refine a_aload_n (pc := 1234) (i := 0) C dL_law_1234 rfl rfl ?_
  refine a_iload (pc := 1235) (i := 4) C dL_law_1235 rfl ?_
  refine a_iconst (pc := 1237) (v := 3) C dL_law_1237 rfl ?_
  refine a_iadd (pc := 1238) C dL_law_1238 ?_
  refine a_sld (pc := 1239) C dL_law_1239 (in_arg hi (by decide)) ?_
  refine a_aload_n (pc := 1240) (i := 0) C dL_law_1240 rfl rfl ?_
  refine a_iload (pc := 1241) (i := 4) C dL_law_1241 rfl ?_
  refine a_iconst (pc := 1243) (v := 4) C dL_law_1243 rfl ?_
  refine a_iadd (pc := 1244) C dL_law_1244 ?_
  refine a_sld (pc := 1245) C dL_law_1245 (in_arg hi (by decide)) ?_
  refine a_aload_n (pc := 1246) (i := 0) C dL_law_1246 rfl rfl ?_
  refine a_iload (pc := 1247) (i := 4) C dL_law_1247 rfl ?_
  refine a_iconst (pc := 1249) (v := 5) C dL_law_1249 rfl ?_
  refine a_iadd (pc := 1250) C dL_law_1250 ?_
  refine a_sld (pc := 1251) C dL_law_1251 (in_arg hi (by decide)) ?_
  refine a_perm (pw1 _ _ _) ?_
  refine a_xVi (pc := 1252) (As := [.int (xs (Int32.toNatClampNeg (i + 1))), .int (xs (Int32.toNatClampNeg (i + 2))), .int (xs (Int32.toNatClampNeg (i + 3))), .int (xs (Int32.toNatClampNeg (i + 4))), .int (xs (Int32.toNatClampNeg (i + 5)))]) (st := []) C (k_X11_pays (ka := ka) (post := fun r x => s2_pays r x y (xs (Int32.toNatClampNeg (i + 1))) (xs (Int32.toNatClampNeg (i + 2))) (xs (Int32.toNatClampNeg (i + 3))) (xs (Int32.toNatClampNeg (i + 4))) (xs (Int32.toNatClampNeg (i + 5))) post) A (fun pl' hp => hw pl' (fun z hz => hp z (List.mem_append_right _ hz)))) dL_law_1252 mth_X11_pays tml_L_126 (fun _ _ h => h.1.1.1) (FzC_ok ka) (rmLw (Nat.le_of_ble_eq_true rfl) (Nat.le_of_ble_eq_true rfl) hk hn) (Nat.le_of_ble_eq_true rfl) rfl rfl (ci := 11) rfl ⟨0, _, rfl⟩ (m := 82) (fun _ => rfl) (fun r u hw => ?_)
  generalize ((u1 (u1 (u1 (u1 (u1 (u1 (u1 (u1 (u1 (u1 (u1 x.1 30 u.2.1) 31 u.2.2.1) 32 u.2.2.2.1) 33 u.2.2.2.2.1) 34 u.2.2.2.2.2.1) 35 u.2.2.2.2.2.2.1) 36 u.2.2.2.2.2.2.2.1) 37 u.2.2.2.2.2.2.2.2.1) 38 u.2.2.2.2.2.2.2.2.2.1) 39 u.2.2.2.2.2.2.2.2.2.2.1) 40 u.2.2.2.2.2.2.2.2.2.2.2.1, u1 x.2.1 21 u.2.2.2.2.2.2.2.2.2.2.2.2.2.2, u1 (u1 x.2.2.1 10 u.2.2.2.2.2.2.2.2.2.2.2.2.1) 11 u.2.2.2.2.2.2.2.2.2.2.2.2.2.1, x.2.2.2.1, u.1, x.2.2.2.2.2.1, x.2.2.2.2.2.2) : XS) = x1 at hw ⊢
  refine a_perm (ws' := WL (cxG X) A x1 B y M o f) (pl' := pl) (pw1 _ _ _).symm ?_
  show AW X 8 k n (WL (cxG X) A x1 B y M o f) pl 1255 [some (.ref b), some (.ref (A 0)), some (.ref (B 0)), some (.ref o), some (.int i), none, none, none] [.int r]
  refine a_aload_n (pc := 1255) (i := 2) C dL_law_1255 rfl rfl ?_
  refine a_aload_n (pc := 1256) (i := 0) C dL_law_1256 rfl rfl ?_
  refine a_iload (pc := 1257) (i := 4) C dL_law_1257 rfl ?_
  refine a_iconst (pc := 1259) (v := 1) C dL_law_1259 rfl ?_
  refine a_iadd (pc := 1260) C dL_law_1260 ?_
  refine a_sld (pc := 1261) C dL_law_1261 (in_arg hi (by decide)) ?_
  refine a_aload_n (pc := 1262) (i := 0) C dL_law_1262 rfl rfl ?_
  refine a_iload (pc := 1263) (i := 4) C dL_law_1263 rfl ?_
  refine a_iconst (pc := 1265) (v := 2) C dL_law_1265 rfl ?_
  refine a_iadd (pc := 1266) C dL_law_1266 ?_
  refine a_sld (pc := 1267) C dL_law_1267 (in_arg hi (by decide)) ?_
  refine a_aload_n (pc := 1268) (i := 0) C dL_law_1268 rfl rfl ?_
  refine a_iload (pc := 1269) (i := 4) C dL_law_1269 rfl ?_
  refine a_iconst (pc := 1271) (v := 3) C dL_law_1271 rfl ?_
  refine a_iadd (pc := 1272) C dL_law_1272 ?_
  refine a_sld (pc := 1273) C dL_law_1273 (in_arg hi (by decide)) ?_
  refine a_aload_n (pc := 1274) (i := 0) C dL_law_1274 rfl rfl ?_
  refine a_iload (pc := 1275) (i := 4) C dL_law_1275 rfl ?_
  refine a_iconst (pc := 1277) (v := 4) C dL_law_1277 rfl ?_
  refine a_iadd (pc := 1278) C dL_law_1278 ?_
  refine a_sld (pc := 1279) C dL_law_1279 (in_arg hi (by decide)) ?_
  refine a_aload_n (pc := 1280) (i := 0) C dL_law_1280 rfl rfl ?_
  refine a_iload (pc := 1281) (i := 4) C dL_law_1281 rfl ?_
  refine a_iconst (pc := 1283) (v := 5) C dL_law_1283 rfl ?_
  refine a_iadd (pc := 1284) C dL_law_1284 ?_
  refine a_sld (pc := 1285) C dL_law_1285 (in_arg hi (by decide)) ?_
  refine a_perm (pw2 _ _ _ _) ?_
  refine a_xVi (pc := 1286) (As := [.int (xs (Int32.toNatClampNeg (i + 1))), .int (xs (Int32.toNatClampNeg (i + 2))), .int (xs (Int32.toNatClampNeg (i + 3))), .int (xs (Int32.toNatClampNeg (i + 4))), .int (xs (Int32.toNatClampNeg (i + 5)))]) (st := [.int r]) C (k_X12_pays (post := fun r2 y => r = r2 ∧ post x1 y) B hw) dL_law_1286 mth_X12_pays tml_L_129 (fun _ _ _ => trivial) Fz0_ok (rmLw (Nat.le_of_ble_eq_true rfl) (Nat.le_of_ble_eq_true rfl) hk hn) (Nat.le_of_ble_eq_true rfl) rfl rfl (ci := 12) rfl ⟨0, _, rfl⟩ (m := 30) (fun _ => rfl) (fun r2 u hw => ?_)
  generalize ((u1 (u1 y.1 0 u.1) 6 u.2.1, u1 (u1 (u1 (u1 (u1 (u1 (u1 (u1 y.2.1 10 u.2.2.1) 8 u.2.2.2.1) 9 u.2.2.2.2.1) 6 u.2.2.2.2.2.1) 7 u.2.2.2.2.2.2.1) 11 u.2.2.2.2.2.2.2.1) 12 u.2.2.2.2.2.2.2.2.1) 13 u.2.2.2.2.2.2.2.2.2, y.2.2) : YS) = y1 at hw ⊢
  refine a_perm (ws' := WL (cxG X) A x1 B y1 M o f) (pl' := pl) (pw2 _ _ _ _).symm ?_
  refine a_icmp_eq (pc := 1289) (tgt := 3322) C dL_law_1289 (by decide) (fun _ => ?_) (fun c => absurd hw.1 c)
  exact a_widen (by omega) (by omega) (kk _ _ hw.2)
set_option maxRecDepth 20000 in
theorem lc_spot {X : Ctx} {ka : KA} {b L : Nat} {xs : Nat → Int32} (C : Cok X cL_law 8 RL room_1 (FzL ka b L xs)) {k n : Nat} (hk : k + 1001 ≤ 601024) (hn : n + 6006 ≤ 7293033) {i : Int32} (hi : 0 ≤ i.toInt ∧ i.toInt + 10 ≤ L ∧ L ≤ 5120) {A B : Nat → Nat} {x : XS} {y : YS} {M : MK} {o : Nat} {f : Nat → Int64} {pl : Pool} {post : XS → YS → Prop} (hw : s1_spot pl x y (xs (Int32.toNatClampNeg (i + 1))) post) (kk : ∀ x y, post x y → AW X 8 (k + 1001) (n + 6006) (WL (cxG X) A x B y M o f) pl 3322 [some (.ref b), some (.ref (A 0)), some (.ref (B 0)), some (.ref o), some (.int i), none, none, none] []) : AW X 8 k n (WL (cxG X) A x B y M o f) pl 1731 [some (.ref b), some (.ref (A 0)), some (.ref (B 0)), some (.ref o), some (.int i), none, none, none] [] := by
  refine a_aload_n (pc := 1731) (i := 1) C dL_law_1731 rfl rfl ?_
  refine a_aload_n (pc := 1732) (i := 0) C dL_law_1732 rfl rfl ?_
  refine a_iload (pc := 1733) (i := 4) C dL_law_1733 rfl ?_
  refine a_iconst (pc := 1735) (v := 1) C dL_law_1735 rfl ?_
  refine a_iadd (pc := 1736) C dL_law_1736 ?_
  refine a_sld (pc := 1737) C dL_law_1737 (in_arg hi (by decide)) ?_
  refine a_perm (pw1 _ _ _) ?_
  refine a_xVi (pc := 1738) (As := [.int (xs (Int32.toNatClampNeg (i + 1)))]) (st := []) C (k_X11_spot (post := fun r x => s2_spot r x y (xs (Int32.toNatClampNeg (i + 1))) post) A (hw)) dL_law_1738 mth_X11_spot tml_L_142 (fun _ _ _ => trivial) Fz0_ok (rmLw (Nat.le_of_ble_eq_true rfl) (Nat.le_of_ble_eq_true rfl) hk hn) (Nat.le_of_ble_eq_true rfl) rfl rfl (ci := 11) rfl ⟨0, _, rfl⟩ (m := 82) (fun _ => rfl) (fun r u hw => ?_)
  generalize ((u1 x.1 4 u.1, u1 x.2.1 2 u.2, x.2.2.1, x.2.2.2.1, x.2.2.2.2.1, x.2.2.2.2.2.1, x.2.2.2.2.2.2) : XS) = x1 at hw ⊢
  refine a_perm (ws' := WL (cxG X) A x1 B y M o f) (pl' := pl) (pw1 _ _ _).symm ?_
  show AW X 8 k n (WL (cxG X) A x1 B y M o f) pl 1741 [some (.ref b), some (.ref (A 0)), some (.ref (B 0)), some (.ref o), some (.int i), none, none, none] [.int r]
  refine a_aload_n (pc := 1741) (i := 2) C dL_law_1741 rfl rfl ?_
  refine a_aload_n (pc := 1742) (i := 0) C dL_law_1742 rfl rfl ?_
  refine a_iload (pc := 1743) (i := 4) C dL_law_1743 rfl ?_
  refine a_iconst (pc := 1745) (v := 1) C dL_law_1745 rfl ?_
  refine a_iadd (pc := 1746) C dL_law_1746 ?_
  refine a_sld (pc := 1747) C dL_law_1747 (in_arg hi (by decide)) ?_
  refine a_perm (pw2 _ _ _ _) ?_
  refine a_xVi (pc := 1748) (As := [.int (xs (Int32.toNatClampNeg (i + 1)))]) (st := [.int r]) C (k_X12_spot (post := fun r2 y => r = r2 ∧ post x1 y) B hw) dL_law_1748 mth_X12_spot tml_L_146 (fun _ _ _ => trivial) Fz0_ok (rmLw (Nat.le_of_ble_eq_true rfl) (Nat.le_of_ble_eq_true rfl) hk hn) (Nat.le_of_ble_eq_true rfl) rfl rfl (ci := 12) rfl ⟨0, _, rfl⟩ (m := 30) (fun _ => rfl) (fun r2 u hw => ?_)
  generalize ((u1 (u1 y.1 0 u.1) 11 u.2.1, u1 y.2.1 19 u.2.2, y.2.2) : YS) = y1 at hw ⊢
  refine a_perm (ws' := WL (cxG X) A x1 B y1 M o f) (pl' := pl) (pw2 _ _ _ _).symm ?_
  refine a_icmp_eq (pc := 1751) (tgt := 3322) C dL_law_1751 (by decide) (fun _ => ?_) (fun c => absurd hw.1 c)
  exact a_widen (by omega) (by omega) (kk _ _ hw.2)
set_option maxRecDepth 20000 in
theorem lc_pull {X : Ctx} {ka : KA} {b L : Nat} {xs : Nat → Int32} (C : Cok X cL_law 8 RL room_1 (FzL ka b L xs)) {k n : Nat} (hk : k + 1001 ≤ 601024) (hn : n + 6006 ≤ 7293033) {i : Int32} (hi : 0 ≤ i.toInt ∧ i.toInt + 10 ≤ L ∧ L ≤ 5120) {A B : Nat → Nat} {x : XS} {y : YS} {M : MK} {o : Nat} {f : Nat → Int64} {pl : Pool} {post : XS → YS → Prop} (hw : s1_pull pl x y (xs (Int32.toNatClampNeg (i + 1))) post) (kk : ∀ x y, post x y → AW X 8 (k + 1001) (n + 6006) (WL (cxG X) A x B y M o f) pl 3322 [some (.ref b), some (.ref (A 0)), some (.ref (B 0)), some (.ref o), some (.int i), none, none, none] []) : AW X 8 k n (WL (cxG X) A x B y M o f) pl 1902 [some (.ref b), some (.ref (A 0)), some (.ref (B 0)), some (.ref o), some (.int i), none, none, none] [] := by
  refine a_aload_n (pc := 1902) (i := 1) C dL_law_1902 rfl rfl ?_
  refine a_aload_n (pc := 1903) (i := 0) C dL_law_1903 rfl rfl ?_
  refine a_iload (pc := 1904) (i := 4) C dL_law_1904 rfl ?_
  refine a_iconst (pc := 1906) (v := 1) C dL_law_1906 rfl ?_
  refine a_iadd (pc := 1907) C dL_law_1907 ?_
  refine a_sld (pc := 1908) C dL_law_1908 (in_arg hi (by decide)) ?_
  refine a_perm (pw1 _ _ _) ?_
  refine a_xVi (pc := 1909) (As := [.int (xs (Int32.toNatClampNeg (i + 1)))]) (st := []) C (k_X11_pull (ka := ka) (post := fun r x => s2_pull r x y (xs (Int32.toNatClampNeg (i + 1))) post) A (fun pl' hp => hw pl' (fun z hz => hp z (List.mem_append_right _ hz)))) dL_law_1909 mth_X11_pull tml_L_150 (fun _ _ h => h.1.1.1) (FzC_ok ka) (rmLw (Nat.le_of_ble_eq_true rfl) (Nat.le_of_ble_eq_true rfl) hk hn) (Nat.le_of_ble_eq_true rfl) rfl rfl (ci := 11) rfl ⟨0, _, rfl⟩ (m := 82) (fun _ => rfl) (fun r u hw => ?_)
  replace hw := hw.2
  generalize ((x.1, u1 (u1 (u1 (u1 x.2.1 0 u.1) 1 u.2.1) 18 u.2.2.2.2.1) 17 u.2.2.2.2.2.1, u1 (u1 (u1 (u1 x.2.2.1 8 u.2.2.1) 9 u.2.2.2.1) 7 u.2.2.2.2.2.2.1) 6 u.2.2.2.2.2.2.2, x.2.2.2.1, x.2.2.2.2.1, x.2.2.2.2.2.1, x.2.2.2.2.2.2) : XS) = x1 at hw ⊢
  refine a_perm (ws' := WL (cxG X) A x1 B y M o f) (pl' := pl) (pw1 _ _ _).symm ?_
  show AW X 8 k n (WL (cxG X) A x1 B y M o f) pl 1912 [some (.ref b), some (.ref (A 0)), some (.ref (B 0)), some (.ref o), some (.int i), none, none, none] [.int r]
  refine a_aload_n (pc := 1912) (i := 2) C dL_law_1912 rfl rfl ?_
  refine a_aload_n (pc := 1913) (i := 0) C dL_law_1913 rfl rfl ?_
  refine a_iload (pc := 1914) (i := 4) C dL_law_1914 rfl ?_
  refine a_iconst (pc := 1916) (v := 1) C dL_law_1916 rfl ?_
  refine a_iadd (pc := 1917) C dL_law_1917 ?_
  refine a_sld (pc := 1918) C dL_law_1918 (in_arg hi (by decide)) ?_
  refine a_perm (pw2 _ _ _ _) ?_
  refine a_xVi (pc := 1919) (As := [.int (xs (Int32.toNatClampNeg (i + 1)))]) (st := [.int r]) C (k_X12_pull (post := fun r2 y => r = r2 ∧ post x1 y) B hw) dL_law_1919 mth_X12_pull tml_L_154 (fun _ _ _ => trivial) Fz0_ok (rmLw (Nat.le_of_ble_eq_true rfl) (Nat.le_of_ble_eq_true rfl) hk hn) (Nat.le_of_ble_eq_true rfl) rfl rfl (ci := 12) rfl ⟨0, _, rfl⟩ (m := 30) (fun _ => rfl) (fun r2 u hw => ?_)
  replace hw := hw.2
  generalize ((u1 (u1 y.1 0 u.1) 6 u.2.1, u1 y.2.1 3 u.2.2, y.2.2) : YS) = y1 at hw ⊢
  refine a_perm (ws' := WL (cxG X) A x1 B y1 M o f) (pl' := pl) (pw2 _ _ _ _).symm ?_
  refine a_icmp_eq (pc := 1922) (tgt := 3322) C dL_law_1922 (by decide) (fun _ => ?_) (fun c => absurd hw.1 c)
  exact a_widen (by omega) (by omega) (kk _ _ hw.2)
set_option maxRecDepth 20000 in
theorem lc_dark {X : Ctx} {ka : KA} {b L : Nat} {xs : Nat → Int32} (C : Cok X cL_law 8 RL room_1 (FzL ka b L xs)) {k n : Nat} (hk : k + 1001 ≤ 601024) (hn : n + 6006 ≤ 7293033) {i : Int32} (hi : 0 ≤ i.toInt ∧ i.toInt + 10 ≤ L ∧ L ≤ 5120) {A B : Nat → Nat} {x : XS} {y : YS} {M : MK} {o : Nat} {f : Nat → Int64} {pl : Pool} {post : XS → YS → Prop} (hw : s1_dark pl x y (xs (Int32.toNatClampNeg (i + 1))) (xs (Int32.toNatClampNeg (i + 2))) (xs (Int32.toNatClampNeg (i + 3))) (xs (Int32.toNatClampNeg (i + 4))) (xs (Int32.toNatClampNeg (i + 5))) post) (kk : ∀ x y, post x y → AW X 8 (k + 1001) (n + 6006) (WL (cxG X) A x B y M o f) pl 3322 [some (.ref b), some (.ref (A 0)), some (.ref (B 0)), some (.ref o), some (.int i), none, none, none] []) : AW X 8 k n (WL (cxG X) A x B y M o f) pl 1927 [some (.ref b), some (.ref (A 0)), some (.ref (B 0)), some (.ref o), some (.int i), none, none, none] [] := by
  refine a_aload_n (pc := 1927) (i := 1) C dL_law_1927 rfl rfl ?_
  refine a_aload_n (pc := 1928) (i := 0) C dL_law_1928 rfl rfl ?_
  refine a_iload (pc := 1929) (i := 4) C dL_law_1929 rfl ?_
  refine a_iconst (pc := 1931) (v := 1) C dL_law_1931 rfl ?_
  refine a_iadd (pc := 1932) C dL_law_1932 ?_
  refine a_sld (pc := 1933) C dL_law_1933 (in_arg hi (by decide)) ?_
  refine a_aload_n (pc := 1934) (i := 0) C dL_law_1934 rfl rfl ?_
  refine a_iload (pc := 1935) (i := 4) C dL_law_1935 rfl ?_
  refine a_iconst (pc := 1937) (v := 2) C dL_law_1937 rfl ?_
  refine a_iadd (pc := 1938) C dL_law_1938 ?_
  refine a_sld (pc := 1939) C dL_law_1939 (in_arg hi (by decide)) ?_
  refine a_aload_n (pc := 1940) (i := 0) C dL_law_1940 rfl rfl ?_
  refine a_iload (pc := 1941) (i := 4) C dL_law_1941 rfl ?_
  refine a_iconst (pc := 1943) (v := 3) C dL_law_1943 rfl ?_
  refine a_iadd (pc := 1944) C dL_law_1944 ?_
  refine a_sld (pc := 1945) C dL_law_1945 (in_arg hi (by decide)) ?_
  refine a_aload_n (pc := 1946) (i := 0) C dL_law_1946 rfl rfl ?_
  refine a_iload (pc := 1947) (i := 4) C dL_law_1947 rfl ?_
  refine a_iconst (pc := 1949) (v := 4) C dL_law_1949 rfl ?_
  refine a_iadd (pc := 1950) C dL_law_1950 ?_
  refine a_sld (pc := 1951) C dL_law_1951 (in_arg hi (by decide)) ?_
  refine a_aload_n (pc := 1952) (i := 0) C dL_law_1952 rfl rfl ?_
  refine a_iload (pc := 1953) (i := 4) C dL_law_1953 rfl ?_
  refine a_iconst (pc := 1955) (v := 5) C dL_law_1955 rfl ?_
  refine a_iadd (pc := 1956) C dL_law_1956 ?_
  refine a_sld (pc := 1957) C dL_law_1957 (in_arg hi (by decide)) ?_
  refine a_perm (pw1 _ _ _) ?_
  refine a_xVi (pc := 1958) (As := [.int (xs (Int32.toNatClampNeg (i + 1))), .int (xs (Int32.toNatClampNeg (i + 2))), .int (xs (Int32.toNatClampNeg (i + 3))), .int (xs (Int32.toNatClampNeg (i + 4))), .int (xs (Int32.toNatClampNeg (i + 5)))]) (st := []) C (k_X11_dark (ka := ka) (post := fun r x => s2_dark r x y (xs (Int32.toNatClampNeg (i + 1))) (xs (Int32.toNatClampNeg (i + 2))) (xs (Int32.toNatClampNeg (i + 3))) (xs (Int32.toNatClampNeg (i + 4))) (xs (Int32.toNatClampNeg (i + 5))) post) A (fun pl' hp => hw pl' (fun z hz => hp z (List.mem_append_right _ hz)))) dL_law_1958 mth_X11_dark tml_L_155 (fun _ _ h => h.1.1.1) (FzC_ok ka) (rmLw (Nat.le_of_ble_eq_true rfl) (Nat.le_of_ble_eq_true rfl) hk hn) (Nat.le_of_ble_eq_true rfl) rfl rfl (ci := 11) rfl ⟨0, _, rfl⟩ (m := 82) (fun _ => rfl) (fun r u hw => ?_)
  generalize ((u1 (u1 (u1 (u1 (u1 (u1 (u1 (u1 x.1 30 u.2.1) 31 u.2.2.1) 32 u.2.2.2.1) 33 u.2.2.2.2.1) 34 u.2.2.2.2.2.1) 35 u.2.2.2.2.2.2.1) 36 u.2.2.2.2.2.2.2.1) 37 u.2.2.2.2.2.2.2.2.1, u1 x.2.1 22 u.2.2.2.2.2.2.2.2.2.2, u1 x.2.2.1 10 u.2.2.2.2.2.2.2.2.2.1, x.2.2.2.1, u.1, x.2.2.2.2.2.1, x.2.2.2.2.2.2) : XS) = x1 at hw ⊢
  refine a_perm (ws' := WL (cxG X) A x1 B y M o f) (pl' := pl) (pw1 _ _ _).symm ?_
  show AW X 8 k n (WL (cxG X) A x1 B y M o f) pl 1961 [some (.ref b), some (.ref (A 0)), some (.ref (B 0)), some (.ref o), some (.int i), none, none, none] [.int r]
  refine a_aload_n (pc := 1961) (i := 2) C dL_law_1961 rfl rfl ?_
  refine a_aload_n (pc := 1962) (i := 0) C dL_law_1962 rfl rfl ?_
  refine a_iload (pc := 1963) (i := 4) C dL_law_1963 rfl ?_
  refine a_iconst (pc := 1965) (v := 1) C dL_law_1965 rfl ?_
  refine a_iadd (pc := 1966) C dL_law_1966 ?_
  refine a_sld (pc := 1967) C dL_law_1967 (in_arg hi (by decide)) ?_
  refine a_aload_n (pc := 1968) (i := 0) C dL_law_1968 rfl rfl ?_
  refine a_iload (pc := 1969) (i := 4) C dL_law_1969 rfl ?_
  refine a_iconst (pc := 1971) (v := 2) C dL_law_1971 rfl ?_
  refine a_iadd (pc := 1972) C dL_law_1972 ?_
  refine a_sld (pc := 1973) C dL_law_1973 (in_arg hi (by decide)) ?_
  refine a_aload_n (pc := 1974) (i := 0) C dL_law_1974 rfl rfl ?_
  refine a_iload (pc := 1975) (i := 4) C dL_law_1975 rfl ?_
  refine a_iconst (pc := 1977) (v := 3) C dL_law_1977 rfl ?_
  refine a_iadd (pc := 1978) C dL_law_1978 ?_
  refine a_sld (pc := 1979) C dL_law_1979 (in_arg hi (by decide)) ?_
  refine a_aload_n (pc := 1980) (i := 0) C dL_law_1980 rfl rfl ?_
  refine a_iload (pc := 1981) (i := 4) C dL_law_1981 rfl ?_
  refine a_iconst (pc := 1983) (v := 4) C dL_law_1983 rfl ?_
  refine a_iadd (pc := 1984) C dL_law_1984 ?_
  refine a_sld (pc := 1985) C dL_law_1985 (in_arg hi (by decide)) ?_
  refine a_aload_n (pc := 1986) (i := 0) C dL_law_1986 rfl rfl ?_
  refine a_iload (pc := 1987) (i := 4) C dL_law_1987 rfl ?_
  refine a_iconst (pc := 1989) (v := 5) C dL_law_1989 rfl ?_
  refine a_iadd (pc := 1990) C dL_law_1990 ?_
  refine a_sld (pc := 1991) C dL_law_1991 (in_arg hi (by decide)) ?_
  refine a_perm (pw2 _ _ _ _) ?_
  refine a_xVi (pc := 1992) (As := [.int (xs (Int32.toNatClampNeg (i + 1))), .int (xs (Int32.toNatClampNeg (i + 2))), .int (xs (Int32.toNatClampNeg (i + 3))), .int (xs (Int32.toNatClampNeg (i + 4))), .int (xs (Int32.toNatClampNeg (i + 5)))]) (st := [.int r]) C (k_X12_dark (post := fun r2 y => r = r2 ∧ post x1 y) B hw) dL_law_1992 mth_X12_dark tml_L_158 (fun _ _ _ => trivial) Fz0_ok (rmLw (Nat.le_of_ble_eq_true rfl) (Nat.le_of_ble_eq_true rfl) hk hn) (Nat.le_of_ble_eq_true rfl) rfl rfl (ci := 12) rfl ⟨0, _, rfl⟩ (m := 30) (fun _ => rfl) (fun r2 u hw => ?_)
  generalize ((u1 (u1 y.1 0 u.1) 6 u.2.1, u1 (u1 (u1 (u1 (u1 (u1 y.2.1 10 u.2.2.1) 8 u.2.2.2.1) 9 u.2.2.2.2.1) 6 u.2.2.2.2.2.1) 7 u.2.2.2.2.2.2.1) 16 u.2.2.2.2.2.2.2, y.2.2) : YS) = y1 at hw ⊢
  refine a_perm (ws' := WL (cxG X) A x1 B y1 M o f) (pl' := pl) (pw2 _ _ _ _).symm ?_
  refine a_icmp_eq (pc := 1995) (tgt := 3322) C dL_law_1995 (by decide) (fun _ => ?_) (fun c => absurd hw.1 c)
  exact a_widen (by omega) (by omega) (kk _ _ hw.2)
set_option maxRecDepth 20000 in
theorem lc_follow {X : Ctx} {ka : KA} {b L : Nat} {xs : Nat → Int32} (C : Cok X cL_law 8 RL room_1 (FzL ka b L xs)) {k n : Nat} (hk : k + 1001 ≤ 601024) (hn : n + 6006 ≤ 7293033) {i : Int32} (hi : 0 ≤ i.toInt ∧ i.toInt + 10 ≤ L ∧ L ≤ 5120) {A B : Nat → Nat} {x : XS} {y : YS} {M : MK} {o : Nat} {f : Nat → Int64} {pl : Pool} {post : XS → YS → Prop} (hw : s1_follow pl x y (xs (Int32.toNatClampNeg (i + 1))) post) (kk : ∀ x y, post x y → AW X 8 (k + 1001) (n + 6006) (WL (cxG X) A x B y M o f) pl 3322 [some (.ref b), some (.ref (A 0)), some (.ref (B 0)), some (.ref o), some (.int i), none, none, none] []) : AW X 8 k n (WL (cxG X) A x B y M o f) pl 2000 [some (.ref b), some (.ref (A 0)), some (.ref (B 0)), some (.ref o), some (.int i), none, none, none] [] := by
  refine a_aload_n (pc := 2000) (i := 1) C dL_law_2000 rfl rfl ?_
  refine a_aload_n (pc := 2001) (i := 0) C dL_law_2001 rfl rfl ?_
  refine a_iload (pc := 2002) (i := 4) C dL_law_2002 rfl ?_
  refine a_iconst (pc := 2004) (v := 1) C dL_law_2004 rfl ?_
  refine a_iadd (pc := 2005) C dL_law_2005 ?_
  refine a_sld (pc := 2006) C dL_law_2006 (in_arg hi (by decide)) ?_
  refine a_perm (pw1 _ _ _) ?_
  refine a_xVi (pc := 2007) (As := [.int (xs (Int32.toNatClampNeg (i + 1)))]) (st := []) C (k_X11_follow (ka := ka) (post := fun r x => s2_follow r x y (xs (Int32.toNatClampNeg (i + 1))) post) A (hw)) dL_law_2007 mth_X11_follow tml_L_159 (fun _ _ h => h.1.1.1) (FzC_ok ka) (rmLw (Nat.le_of_ble_eq_true rfl) (Nat.le_of_ble_eq_true rfl) hk hn) (Nat.le_of_ble_eq_true rfl) rfl rfl (ci := 11) rfl ⟨0, _, rfl⟩ (m := 82) (fun _ => rfl) (fun r u hw => ?_)
  generalize ((u1 x.1 5 u.1, u1 x.2.1 3 u.2, x.2.2.1, x.2.2.2.1, x.2.2.2.2.1, x.2.2.2.2.2.1, x.2.2.2.2.2.2) : XS) = x1 at hw ⊢
  refine a_perm (ws' := WL (cxG X) A x1 B y M o f) (pl' := pl) (pw1 _ _ _).symm ?_
  show AW X 8 k n (WL (cxG X) A x1 B y M o f) pl 2010 [some (.ref b), some (.ref (A 0)), some (.ref (B 0)), some (.ref o), some (.int i), none, none, none] [.int r]
  refine a_aload_n (pc := 2010) (i := 2) C dL_law_2010 rfl rfl ?_
  refine a_aload_n (pc := 2011) (i := 0) C dL_law_2011 rfl rfl ?_
  refine a_iload (pc := 2012) (i := 4) C dL_law_2012 rfl ?_
  refine a_iconst (pc := 2014) (v := 1) C dL_law_2014 rfl ?_
  refine a_iadd (pc := 2015) C dL_law_2015 ?_
  refine a_sld (pc := 2016) C dL_law_2016 (in_arg hi (by decide)) ?_
  refine a_perm (pw2 _ _ _ _) ?_
  refine a_xVi (pc := 2017) (As := [.int (xs (Int32.toNatClampNeg (i + 1)))]) (st := [.int r]) C (k_X12_follow (post := fun r2 y => r = r2 ∧ post x1 y) B hw) dL_law_2017 mth_X12_follow tml_L_162 (fun _ _ _ => trivial) Fz0_ok (rmLw (Nat.le_of_ble_eq_true rfl) (Nat.le_of_ble_eq_true rfl) hk hn) (Nat.le_of_ble_eq_true rfl) rfl rfl (ci := 12) rfl ⟨0, _, rfl⟩ (m := 30) (fun _ => rfl) (fun r2 u hw => ?_)
  generalize ((u1 (u1 y.1 0 u.1) 12 u.2.1, u1 y.2.1 20 u.2.2, y.2.2) : YS) = y1 at hw ⊢
  refine a_perm (ws' := WL (cxG X) A x1 B y1 M o f) (pl' := pl) (pw2 _ _ _ _).symm ?_
  refine a_icmp_eq (pc := 2020) (tgt := 3322) C dL_law_2020 (by decide) (fun _ => ?_) (fun c => absurd hw.1 c)
  exact a_widen (by omega) (by omega) (kk _ _ hw.2)
set_option maxRecDepth 20000 in
theorem lc_parade {X : Ctx} {ka : KA} {b L : Nat} {xs : Nat → Int32} (C : Cok X cL_law 8 RL room_1 (FzL ka b L xs)) {k n : Nat} (hk : k + 1001 ≤ 601024) (hn : n + 6006 ≤ 7293033) {i : Int32} (hi : 0 ≤ i.toInt ∧ i.toInt + 10 ≤ L ∧ L ≤ 5120) {A B : Nat → Nat} {x : XS} {y : YS} {M : MK} {o : Nat} {f : Nat → Int64} {pl : Pool} {post : XS → YS → Prop} (hw : s1_parade pl x y (xs (Int32.toNatClampNeg (i + 1))) (xs (Int32.toNatClampNeg (i + 2))) (xs (Int32.toNatClampNeg (i + 3))) post) (kk : ∀ x y, post x y → AW X 8 (k + 1001) (n + 6006) (WL (cxG X) A x B y M o f) pl 3322 [some (.ref b), some (.ref (A 0)), some (.ref (B 0)), some (.ref o), some (.int i), none, none, none] []) : AW X 8 k n (WL (cxG X) A x B y M o f) pl 2025 [some (.ref b), some (.ref (A 0)), some (.ref (B 0)), some (.ref o), some (.int i), none, none, none] [] := by
  refine a_aload_n (pc := 2025) (i := 1) C dL_law_2025 rfl rfl ?_
  refine a_aload_n (pc := 2026) (i := 0) C dL_law_2026 rfl rfl ?_
  refine a_iload (pc := 2027) (i := 4) C dL_law_2027 rfl ?_
  refine a_iconst (pc := 2029) (v := 1) C dL_law_2029 rfl ?_
  refine a_iadd (pc := 2030) C dL_law_2030 ?_
  refine a_sld (pc := 2031) C dL_law_2031 (in_arg hi (by decide)) ?_
  refine a_aload_n (pc := 2032) (i := 0) C dL_law_2032 rfl rfl ?_
  refine a_iload (pc := 2033) (i := 4) C dL_law_2033 rfl ?_
  refine a_iconst (pc := 2035) (v := 2) C dL_law_2035 rfl ?_
  refine a_iadd (pc := 2036) C dL_law_2036 ?_
  refine a_sld (pc := 2037) C dL_law_2037 (in_arg hi (by decide)) ?_
  refine a_aload_n (pc := 2038) (i := 0) C dL_law_2038 rfl rfl ?_
  refine a_iload (pc := 2039) (i := 4) C dL_law_2039 rfl ?_
  refine a_iconst (pc := 2041) (v := 3) C dL_law_2041 rfl ?_
  refine a_iadd (pc := 2042) C dL_law_2042 ?_
  refine a_sld (pc := 2043) C dL_law_2043 (in_arg hi (by decide)) ?_
  refine a_perm (pw1 _ _ _) ?_
  refine a_xVi (pc := 2044) (As := [.int (xs (Int32.toNatClampNeg (i + 1))), .int (xs (Int32.toNatClampNeg (i + 2))), .int (xs (Int32.toNatClampNeg (i + 3)))]) (st := []) C (k_X11_parade (post := fun r x => s2_parade r x y (xs (Int32.toNatClampNeg (i + 1))) (xs (Int32.toNatClampNeg (i + 2))) (xs (Int32.toNatClampNeg (i + 3))) post) A (hw)) dL_law_2044 mth_X11_parade tml_L_163 (fun _ _ _ => trivial) Fz0_ok (rmLw (Nat.le_of_ble_eq_true rfl) (Nat.le_of_ble_eq_true rfl) hk hn) (Nat.le_of_ble_eq_true rfl) rfl rfl (ci := 11) rfl ⟨0, _, rfl⟩ (m := 82) (fun _ => rfl) (fun r u hw => ?_)
  refine a_perm (ws' := WL (cxG X) A x B y M o f) (pl' := pl) (pw1 _ _ _).symm ?_
  show AW X 8 k n (WL (cxG X) A x B y M o f) pl 2047 [some (.ref b), some (.ref (A 0)), some (.ref (B 0)), some (.ref o), some (.int i), none, none, none] [.int r]
  refine a_aload_n (pc := 2047) (i := 2) C dL_law_2047 rfl rfl ?_
  refine a_aload_n (pc := 2048) (i := 0) C dL_law_2048 rfl rfl ?_
  refine a_iload (pc := 2049) (i := 4) C dL_law_2049 rfl ?_
  refine a_iconst (pc := 2051) (v := 1) C dL_law_2051 rfl ?_
  refine a_iadd (pc := 2052) C dL_law_2052 ?_
  refine a_sld (pc := 2053) C dL_law_2053 (in_arg hi (by decide)) ?_
  refine a_aload_n (pc := 2054) (i := 0) C dL_law_2054 rfl rfl ?_
  refine a_iload (pc := 2055) (i := 4) C dL_law_2055 rfl ?_
  refine a_iconst (pc := 2057) (v := 2) C dL_law_2057 rfl ?_
  refine a_iadd (pc := 2058) C dL_law_2058 ?_
  refine a_sld (pc := 2059) C dL_law_2059 (in_arg hi (by decide)) ?_
  refine a_aload_n (pc := 2060) (i := 0) C dL_law_2060 rfl rfl ?_
  refine a_iload (pc := 2061) (i := 4) C dL_law_2061 rfl ?_
  refine a_iconst (pc := 2063) (v := 3) C dL_law_2063 rfl ?_
  refine a_iadd (pc := 2064) C dL_law_2064 ?_
  refine a_sld (pc := 2065) C dL_law_2065 (in_arg hi (by decide)) ?_
  refine a_perm (pw2 _ _ _ _) ?_
  refine a_xVi (pc := 2066) (As := [.int (xs (Int32.toNatClampNeg (i + 1))), .int (xs (Int32.toNatClampNeg (i + 2))), .int (xs (Int32.toNatClampNeg (i + 3)))]) (st := [.int r]) C (k_X12_parade (post := fun r2 y => r = r2 ∧ post x y) B hw) dL_law_2066 mth_X12_parade tml_L_166 (fun _ _ _ => trivial) Fz0_ok (rmLw (Nat.le_of_ble_eq_true rfl) (Nat.le_of_ble_eq_true rfl) hk hn) (Nat.le_of_ble_eq_true rfl) rfl rfl (ci := 12) rfl ⟨0, _, rfl⟩ (m := 30) (fun _ => rfl) (fun r2 u hw => ?_)
  generalize ((u1 (u1 y.1 0 u.1) 6 u.2.1, u1 (u1 (u1 (u1 (u1 y.2.1 10 u.2.2.1) 8 u.2.2.2.1) 9 u.2.2.2.2.1) 6 u.2.2.2.2.2.1) 7 u.2.2.2.2.2.2, y.2.2) : YS) = y1 at hw ⊢
  refine a_perm (ws' := WL (cxG X) A x B y1 M o f) (pl' := pl) (pw2 _ _ _ _).symm ?_
  refine a_icmp_eq (pc := 2069) (tgt := 3322) C dL_law_2069 (by decide) (fun _ => ?_) (fun c => absurd hw.1 c)
  exact a_widen (by omega) (by omega) (kk _ _ hw.2)
set_option maxRecDepth 20000 in
theorem lc_start {X : Ctx} {ka : KA} {b L : Nat} {xs : Nat → Int32} (C : Cok X cL_law 8 RL room_1 (FzL ka b L xs)) {k n : Nat} (hk : k + 1001 ≤ 601024) (hn : n + 6006 ≤ 7293033) {i : Int32} (hi : 0 ≤ i.toInt ∧ i.toInt + 10 ≤ L ∧ L ≤ 5120) {A B : Nat → Nat} {x : XS} {y : YS} {M : MK} {o : Nat} {f : Nat → Int64} {pl : Pool} {post : XS → YS → Prop} (hw : s1_start pl x y (xs (Int32.toNatClampNeg (i + 1))) (xs (Int32.toNatClampNeg (i + 2))) (xs (Int32.toNatClampNeg (i + 3))) (xs (Int32.toNatClampNeg (i + 4))) post) (kk : ∀ x y, post x y → AW X 8 (k + 1001) (n + 6006) (WL (cxG X) A x B y M o f) pl 3322 [some (.ref b), some (.ref (A 0)), some (.ref (B 0)), some (.ref o), some (.int i), none, none, none] []) : AW X 8 k n (WL (cxG X) A x B y M o f) pl 2074 [some (.ref b), some (.ref (A 0)), some (.ref (B 0)), some (.ref o), some (.int i), none, none, none] [] := by
  refine a_aload_n (pc := 2074) (i := 1) C dL_law_2074 rfl rfl ?_
  refine a_aload_n (pc := 2075) (i := 0) C dL_law_2075 rfl rfl ?_
  refine a_iload (pc := 2076) (i := 4) C dL_law_2076 rfl ?_
  refine a_iconst (pc := 2078) (v := 1) C dL_law_2078 rfl ?_
  refine a_iadd (pc := 2079) C dL_law_2079 ?_
  refine a_sld (pc := 2080) C dL_law_2080 (in_arg hi (by decide)) ?_
  refine a_aload_n (pc := 2081) (i := 0) C dL_law_2081 rfl rfl ?_
  refine a_iload (pc := 2082) (i := 4) C dL_law_2082 rfl ?_
  refine a_iconst (pc := 2084) (v := 2) C dL_law_2084 rfl ?_
  refine a_iadd (pc := 2085) C dL_law_2085 ?_
  refine a_sld (pc := 2086) C dL_law_2086 (in_arg hi (by decide)) ?_
  refine a_aload_n (pc := 2087) (i := 0) C dL_law_2087 rfl rfl ?_
  refine a_iload (pc := 2088) (i := 4) C dL_law_2088 rfl ?_
  refine a_iconst (pc := 2090) (v := 3) C dL_law_2090 rfl ?_
  refine a_iadd (pc := 2091) C dL_law_2091 ?_
  refine a_sld (pc := 2092) C dL_law_2092 (in_arg hi (by decide)) ?_
  refine a_aload_n (pc := 2093) (i := 0) C dL_law_2093 rfl rfl ?_
  refine a_iload (pc := 2094) (i := 4) C dL_law_2094 rfl ?_
  refine a_iconst (pc := 2096) (v := 4) C dL_law_2096 rfl ?_
  refine a_iadd (pc := 2097) C dL_law_2097 ?_
  refine a_sld (pc := 2098) C dL_law_2098 (in_arg hi (by decide)) ?_
  refine a_perm (pw1 _ _ _) ?_
  refine a_xVi (pc := 2099) (As := [.int (xs (Int32.toNatClampNeg (i + 1))), .int (xs (Int32.toNatClampNeg (i + 2))), .int (xs (Int32.toNatClampNeg (i + 3))), .int (xs (Int32.toNatClampNeg (i + 4)))]) (st := []) C (k_X11_start (post := fun r x => s2_start r x y (xs (Int32.toNatClampNeg (i + 1))) (xs (Int32.toNatClampNeg (i + 2))) (xs (Int32.toNatClampNeg (i + 3))) (xs (Int32.toNatClampNeg (i + 4))) post) A (hw)) dL_law_2099 mth_X11_start tml_L_167 (fun _ _ _ => trivial) Fz0_ok (rmLw (Nat.le_of_ble_eq_true rfl) (Nat.le_of_ble_eq_true rfl) hk hn) (Nat.le_of_ble_eq_true rfl) rfl rfl (ci := 11) rfl ⟨0, _, rfl⟩ (m := 82) (fun _ => rfl) (fun r u hw => ?_)
  refine a_perm (ws' := WL (cxG X) A x B y M o f) (pl' := pl) (pw1 _ _ _).symm ?_
  show AW X 8 k n (WL (cxG X) A x B y M o f) pl 2102 [some (.ref b), some (.ref (A 0)), some (.ref (B 0)), some (.ref o), some (.int i), none, none, none] [.int r]
  refine a_aload_n (pc := 2102) (i := 2) C dL_law_2102 rfl rfl ?_
  refine a_aload_n (pc := 2103) (i := 0) C dL_law_2103 rfl rfl ?_
  refine a_iload (pc := 2104) (i := 4) C dL_law_2104 rfl ?_
  refine a_iconst (pc := 2106) (v := 1) C dL_law_2106 rfl ?_
  refine a_iadd (pc := 2107) C dL_law_2107 ?_
  refine a_sld (pc := 2108) C dL_law_2108 (in_arg hi (by decide)) ?_
  refine a_aload_n (pc := 2109) (i := 0) C dL_law_2109 rfl rfl ?_
  refine a_iload (pc := 2110) (i := 4) C dL_law_2110 rfl ?_
  refine a_iconst (pc := 2112) (v := 2) C dL_law_2112 rfl ?_
  refine a_iadd (pc := 2113) C dL_law_2113 ?_
  refine a_sld (pc := 2114) C dL_law_2114 (in_arg hi (by decide)) ?_
  refine a_aload_n (pc := 2115) (i := 0) C dL_law_2115 rfl rfl ?_
  refine a_iload (pc := 2116) (i := 4) C dL_law_2116 rfl ?_
  refine a_iconst (pc := 2118) (v := 3) C dL_law_2118 rfl ?_
  refine a_iadd (pc := 2119) C dL_law_2119 ?_
  refine a_sld (pc := 2120) C dL_law_2120 (in_arg hi (by decide)) ?_
  refine a_aload_n (pc := 2121) (i := 0) C dL_law_2121 rfl rfl ?_
  refine a_iload (pc := 2122) (i := 4) C dL_law_2122 rfl ?_
  refine a_iconst (pc := 2124) (v := 4) C dL_law_2124 rfl ?_
  refine a_iadd (pc := 2125) C dL_law_2125 ?_
  refine a_sld (pc := 2126) C dL_law_2126 (in_arg hi (by decide)) ?_
  refine a_perm (pw2 _ _ _ _) ?_
  refine a_xVi (pc := 2127) (As := [.int (xs (Int32.toNatClampNeg (i + 1))), .int (xs (Int32.toNatClampNeg (i + 2))), .int (xs (Int32.toNatClampNeg (i + 3))), .int (xs (Int32.toNatClampNeg (i + 4)))]) (st := [.int r]) C (k_X12_start (post := fun r2 y => r = r2 ∧ post x y) B hw) dL_law_2127 mth_X12_start tml_L_170 (fun _ _ _ => trivial) Fz0_ok (rmLw (Nat.le_of_ble_eq_true rfl) (Nat.le_of_ble_eq_true rfl) hk hn) (Nat.le_of_ble_eq_true rfl) rfl rfl (ci := 12) rfl ⟨0, _, rfl⟩ (m := 30) (fun _ => rfl) (fun r2 u hw => ?_)
  generalize ((u1 (u1 y.1 0 u.1) 6 u.2.1, u1 (u1 (u1 (u1 (u1 y.2.1 10 u.2.2.1) 8 u.2.2.2.1) 9 u.2.2.2.2.1) 6 u.2.2.2.2.2.1) 7 u.2.2.2.2.2.2, y.2.2) : YS) = y1 at hw ⊢
  refine a_perm (ws' := WL (cxG X) A x B y1 M o f) (pl' := pl) (pw2 _ _ _ _).symm ?_
  refine a_icmp_eq (pc := 2130) (tgt := 3322) C dL_law_2130 (by decide) (fun _ => ?_) (fun c => absurd hw.1 c)
  exact a_widen (by omega) (by omega) (kk _ _ hw.2)
set_option maxRecDepth 20000 in
theorem lc_tell {X : Ctx} {ka : KA} {b L : Nat} {xs : Nat → Int32} (C : Cok X cL_law 8 RL room_1 (FzL ka b L xs)) {k n : Nat} (hk : k + 1001 ≤ 601024) (hn : n + 6006 ≤ 7293033) {i : Int32} (hi : 0 ≤ i.toInt ∧ i.toInt + 10 ≤ L ∧ L ≤ 5120) {A B : Nat → Nat} {x : XS} {y : YS} {M : MK} {o : Nat} {f : Nat → Int64} {pl : Pool} {post : XS → YS → Prop} (hw : s1_tell pl x y (xs (Int32.toNatClampNeg (i + 1))) post) (kk : ∀ x y, post x y → AW X 8 (k + 1001) (n + 6006) (WL (cxG X) A x B y M o f) pl 3322 [some (.ref b), some (.ref (A 0)), some (.ref (B 0)), some (.ref o), some (.int i), none, none, none] []) : AW X 8 k n (WL (cxG X) A x B y M o f) pl 2135 [some (.ref b), some (.ref (A 0)), some (.ref (B 0)), some (.ref o), some (.int i), none, none, none] [] := by
  refine a_aload_n (pc := 2135) (i := 1) C dL_law_2135 rfl rfl ?_
  refine a_aload_n (pc := 2136) (i := 0) C dL_law_2136 rfl rfl ?_
  refine a_iload (pc := 2137) (i := 4) C dL_law_2137 rfl ?_
  refine a_iconst (pc := 2139) (v := 1) C dL_law_2139 rfl ?_
  refine a_iadd (pc := 2140) C dL_law_2140 ?_
  refine a_sld (pc := 2141) C dL_law_2141 (in_arg hi (by decide)) ?_
  refine a_perm (pw1 _ _ _) ?_
  refine a_xVi (pc := 2142) (As := [.int (xs (Int32.toNatClampNeg (i + 1)))]) (st := []) C (k_X11_tell (post := fun r x => s2_tell r x y (xs (Int32.toNatClampNeg (i + 1))) post) A (hw)) dL_law_2142 mth_X11_tell tml_L_171 (fun _ _ _ => trivial) Fz0_ok (rmLw (Nat.le_of_ble_eq_true rfl) (Nat.le_of_ble_eq_true rfl) hk hn) (Nat.le_of_ble_eq_true rfl) rfl rfl (ci := 11) rfl ⟨0, _, rfl⟩ (m := 82) (fun _ => rfl) (fun r u hw => ?_)
  generalize ((u1 x.1 6 u.1, u1 x.2.1 4 u.2, x.2.2.1, x.2.2.2.1, x.2.2.2.2.1, x.2.2.2.2.2.1, x.2.2.2.2.2.2) : XS) = x1 at hw ⊢
  refine a_perm (ws' := WL (cxG X) A x1 B y M o f) (pl' := pl) (pw1 _ _ _).symm ?_
  show AW X 8 k n (WL (cxG X) A x1 B y M o f) pl 2145 [some (.ref b), some (.ref (A 0)), some (.ref (B 0)), some (.ref o), some (.int i), none, none, none] [.int r]
  refine a_aload_n (pc := 2145) (i := 2) C dL_law_2145 rfl rfl ?_
  refine a_aload_n (pc := 2146) (i := 0) C dL_law_2146 rfl rfl ?_
  refine a_iload (pc := 2147) (i := 4) C dL_law_2147 rfl ?_
  refine a_iconst (pc := 2149) (v := 1) C dL_law_2149 rfl ?_
  refine a_iadd (pc := 2150) C dL_law_2150 ?_
  refine a_sld (pc := 2151) C dL_law_2151 (in_arg hi (by decide)) ?_
  refine a_perm (pw2 _ _ _ _) ?_
  refine a_xVi (pc := 2152) (As := [.int (xs (Int32.toNatClampNeg (i + 1)))]) (st := [.int r]) C (k_X12_tell (post := fun r2 y => r = r2 ∧ post x1 y) B hw) dL_law_2152 mth_X12_tell tml_L_174 (fun _ _ _ => trivial) Fz0_ok (rmLw (Nat.le_of_ble_eq_true rfl) (Nat.le_of_ble_eq_true rfl) hk hn) (Nat.le_of_ble_eq_true rfl) rfl rfl (ci := 12) rfl ⟨0, _, rfl⟩ (m := 30) (fun _ => rfl) (fun r2 u hw => ?_)
  generalize ((u1 (u1 y.1 0 u.1) 13 u.2.1, u1 y.2.1 21 u.2.2, y.2.2) : YS) = y1 at hw ⊢
  refine a_perm (ws' := WL (cxG X) A x1 B y1 M o f) (pl' := pl) (pw2 _ _ _ _).symm ?_
  refine a_icmp_eq (pc := 2155) (tgt := 3322) C dL_law_2155 (by decide) (fun _ => ?_) (fun c => absurd hw.1 c)
  exact a_widen (by omega) (by omega) (kk _ _ hw.2)
set_option maxRecDepth 20000 in
theorem lc_clear {X : Ctx} {ka : KA} {b L : Nat} {xs : Nat → Int32} (C : Cok X cL_law 8 RL room_1 (FzL ka b L xs)) {k n : Nat} (hk : k + 1001 ≤ 601024) (hn : n + 6006 ≤ 7293033) {i : Int32} (hi : 0 ≤ i.toInt ∧ i.toInt + 10 ≤ L ∧ L ≤ 5120) {A B : Nat → Nat} {x : XS} {y : YS} {M : MK} {o : Nat} {f : Nat → Int64} {pl : Pool} {post : XS → YS → Prop} (hw : s1_clear pl x y  post) (kk : ∀ x y, post x y → AW X 8 (k + 1001) (n + 6006) (WL (cxG X) A x B y M o f) pl 3322 [some (.ref b), some (.ref (A 0)), some (.ref (B 0)), some (.ref o), some (.int i), none, none, none] []) : AW X 8 k n (WL (cxG X) A x B y M o f) pl 2160 [some (.ref b), some (.ref (A 0)), some (.ref (B 0)), some (.ref o), some (.int i), none, none, none] [] := by
  refine a_aload_n (pc := 2160) (i := 1) C dL_law_2160 rfl rfl ?_
  refine a_perm (pw1 _ _ _) ?_
  refine a_xVi (pc := 2161) (As := []) (st := []) C (k_X11_clear (post := fun r x => s2_clear r x y  post) A (hw)) dL_law_2161 mth_X11_clear tml_L_175 (fun _ _ _ => trivial) Fz0_ok (rmLw (Nat.le_of_ble_eq_true rfl) (Nat.le_of_ble_eq_true rfl) hk hn) (Nat.le_of_ble_eq_true rfl) rfl rfl (ci := 11) rfl ⟨0, _, rfl⟩ (m := 82) (fun _ => rfl) (fun r u hw => ?_)
  replace hw := hw.2
  generalize ((u1 (u1 x.1 5 u.1) 6 u.2, x.2.1, x.2.2.1, x.2.2.2.1, x.2.2.2.2.1, x.2.2.2.2.2.1, x.2.2.2.2.2.2) : XS) = x1 at hw ⊢
  refine a_perm (ws' := WL (cxG X) A x1 B y M o f) (pl' := pl) (pw1 _ _ _).symm ?_
  show AW X 8 k n (WL (cxG X) A x1 B y M o f) pl 2164 [some (.ref b), some (.ref (A 0)), some (.ref (B 0)), some (.ref o), some (.int i), none, none, none] [.int r]
  refine a_aload_n (pc := 2164) (i := 2) C dL_law_2164 rfl rfl ?_
  refine a_perm (pw2 _ _ _ _) ?_
  refine a_xVi (pc := 2165) (As := []) (st := [.int r]) C (k_X12_clear (post := fun r2 y => r = r2 ∧ post x1 y) B hw) dL_law_2165 mth_X12_clear tml_L_179 (fun _ _ _ => trivial) Fz0_ok (rmLw (Nat.le_of_ble_eq_true rfl) (Nat.le_of_ble_eq_true rfl) hk hn) (Nat.le_of_ble_eq_true rfl) rfl rfl (ci := 12) rfl ⟨0, _, rfl⟩ (m := 30) (fun _ => rfl) (fun r2 u hw => ?_)
  replace hw := hw.2
  generalize ((u1 (u1 (u1 y.1 0 u.1) 12 u.2.1) 13 u.2.2, y.2.1, y.2.2) : YS) = y1 at hw ⊢
  refine a_perm (ws' := WL (cxG X) A x1 B y1 M o f) (pl' := pl) (pw2 _ _ _ _).symm ?_
  refine a_icmp_eq (pc := 2168) (tgt := 3322) C dL_law_2168 (by decide) (fun _ => ?_) (fun c => absurd hw.1 c)
  exact a_widen (by omega) (by omega) (kk _ _ hw.2)
set_option maxRecDepth 20000 in
theorem lc_leave {X : Ctx} {ka : KA} {b L : Nat} {xs : Nat → Int32} (C : Cok X cL_law 8 RL room_1 (FzL ka b L xs)) {k n : Nat} (hk : k + 1001 ≤ 601024) (hn : n + 6006 ≤ 7293033) {i : Int32} (hi : 0 ≤ i.toInt ∧ i.toInt + 10 ≤ L ∧ L ≤ 5120) {A B : Nat → Nat} {x : XS} {y : YS} {M : MK} {o : Nat} {f : Nat → Int64} {pl : Pool} {post : XS → YS → Prop} (hw : s1_leave pl x y (xs (Int32.toNatClampNeg (i + 1))) (xs (Int32.toNatClampNeg (i + 2))) (xs (Int32.toNatClampNeg (i + 3))) (xs (Int32.toNatClampNeg (i + 4))) (xs (Int32.toNatClampNeg (i + 5))) (xs (Int32.toNatClampNeg (i + 6))) (xs (Int32.toNatClampNeg (i + 7))) post) (kk : ∀ x y, post x y → AW X 8 (k + 1001) (n + 6006) (WL (cxG X) A x B y M o f) pl 3322 [some (.ref b), some (.ref (A 0)), some (.ref (B 0)), some (.ref o), some (.int i), none, none, none] []) : AW X 8 k n (WL (cxG X) A x B y M o f) pl 2395 [some (.ref b), some (.ref (A 0)), some (.ref (B 0)), some (.ref o), some (.int i), none, none, none] [] := by
  refine a_aload_n (pc := 2395) (i := 1) C dL_law_2395 rfl rfl ?_
  refine a_aload_n (pc := 2396) (i := 0) C dL_law_2396 rfl rfl ?_
  refine a_iload (pc := 2397) (i := 4) C dL_law_2397 rfl ?_
  refine a_iconst (pc := 2399) (v := 1) C dL_law_2399 rfl ?_
  refine a_iadd (pc := 2400) C dL_law_2400 ?_
  refine a_sld (pc := 2401) C dL_law_2401 (in_arg hi (by decide)) ?_
  refine a_aload_n (pc := 2402) (i := 0) C dL_law_2402 rfl rfl ?_
  refine a_iload (pc := 2403) (i := 4) C dL_law_2403 rfl ?_
  refine a_iconst (pc := 2405) (v := 2) C dL_law_2405 rfl ?_
  refine a_iadd (pc := 2406) C dL_law_2406 ?_
  refine a_sld (pc := 2407) C dL_law_2407 (in_arg hi (by decide)) ?_
  refine a_aload_n (pc := 2408) (i := 0) C dL_law_2408 rfl rfl ?_
  refine a_iload (pc := 2409) (i := 4) C dL_law_2409 rfl ?_
  refine a_iconst (pc := 2411) (v := 3) C dL_law_2411 rfl ?_
  refine a_iadd (pc := 2412) C dL_law_2412 ?_
  refine a_sld (pc := 2413) C dL_law_2413 (in_arg hi (by decide)) ?_
  refine a_aload_n (pc := 2414) (i := 0) C dL_law_2414 rfl rfl ?_
  refine a_iload (pc := 2415) (i := 4) C dL_law_2415 rfl ?_
  refine a_iconst (pc := 2417) (v := 4) C dL_law_2417 rfl ?_
  refine a_iadd (pc := 2418) C dL_law_2418 ?_
  refine a_sld (pc := 2419) C dL_law_2419 (in_arg hi (by decide)) ?_
  refine a_aload_n (pc := 2420) (i := 0) C dL_law_2420 rfl rfl ?_
  refine a_iload (pc := 2421) (i := 4) C dL_law_2421 rfl ?_
  refine a_iconst (pc := 2423) (v := 5) C dL_law_2423 rfl ?_
  refine a_iadd (pc := 2424) C dL_law_2424 ?_
  refine a_sld (pc := 2425) C dL_law_2425 (in_arg hi (by decide)) ?_
  refine a_aload_n (pc := 2426) (i := 0) C dL_law_2426 rfl rfl ?_
  refine a_iload (pc := 2427) (i := 4) C dL_law_2427 rfl ?_
  refine a_bipush (pc := 2429) (v := 6) C dL_law_2429 rfl ?_
  refine a_iadd (pc := 2431) C dL_law_2431 ?_
  refine a_sld (pc := 2432) C dL_law_2432 (in_arg hi (by decide)) ?_
  refine a_aload_n (pc := 2433) (i := 0) C dL_law_2433 rfl rfl ?_
  refine a_iload (pc := 2434) (i := 4) C dL_law_2434 rfl ?_
  refine a_bipush (pc := 2436) (v := 7) C dL_law_2436 rfl ?_
  refine a_iadd (pc := 2438) C dL_law_2438 ?_
  refine a_sld (pc := 2439) C dL_law_2439 (in_arg hi (by decide)) ?_
  refine a_perm (pw1 _ _ _) ?_
  refine a_xVi (pc := 2440) (As := [.int (xs (Int32.toNatClampNeg (i + 1))), .int (xs (Int32.toNatClampNeg (i + 2))), .int (xs (Int32.toNatClampNeg (i + 3))), .int (xs (Int32.toNatClampNeg (i + 4))), .int (xs (Int32.toNatClampNeg (i + 5))), .int (xs (Int32.toNatClampNeg (i + 6))), .int (xs (Int32.toNatClampNeg (i + 7)))]) (st := []) C (k_X11_leave (ka := ka) (post := fun r x => s2_leave r x y (xs (Int32.toNatClampNeg (i + 1))) (xs (Int32.toNatClampNeg (i + 2))) (xs (Int32.toNatClampNeg (i + 3))) (xs (Int32.toNatClampNeg (i + 4))) (xs (Int32.toNatClampNeg (i + 5))) (xs (Int32.toNatClampNeg (i + 6))) (xs (Int32.toNatClampNeg (i + 7))) post) A (fun pl' hp => hw pl' (fun z hz => hp z (List.mem_append_right _ hz)))) dL_law_2440 mth_X11_leave tml_L_187 (fun _ _ h => h.1.1.1) (FzC_ok ka) (rmLw (Nat.le_of_ble_eq_true rfl) (Nat.le_of_ble_eq_true rfl) hk hn) (Nat.le_of_ble_eq_true rfl) rfl rfl (ci := 11) rfl ⟨0, _, rfl⟩ (m := 82) (fun _ => rfl) (fun r u hw => ?_)
  generalize ((u1 (u1 (u1 (u1 (u1 (u1 (u1 (u1 x.1 30 u.2.1) 31 u.2.2.1) 32 u.2.2.2.1) 33 u.2.2.2.2.1) 34 u.2.2.2.2.2.1) 35 u.2.2.2.2.2.2.1) 36 u.2.2.2.2.2.2.2.1) 37 u.2.2.2.2.2.2.2.2.1, u1 x.2.1 22 u.2.2.2.2.2.2.2.2.2.2, u1 x.2.2.1 10 u.2.2.2.2.2.2.2.2.2.1, x.2.2.2.1, u.1, x.2.2.2.2.2.1, x.2.2.2.2.2.2) : XS) = x1 at hw ⊢
  refine a_perm (ws' := WL (cxG X) A x1 B y M o f) (pl' := pl) (pw1 _ _ _).symm ?_
  show AW X 8 k n (WL (cxG X) A x1 B y M o f) pl 2443 [some (.ref b), some (.ref (A 0)), some (.ref (B 0)), some (.ref o), some (.int i), none, none, none] [.int r]
  refine a_aload_n (pc := 2443) (i := 2) C dL_law_2443 rfl rfl ?_
  refine a_aload_n (pc := 2444) (i := 0) C dL_law_2444 rfl rfl ?_
  refine a_iload (pc := 2445) (i := 4) C dL_law_2445 rfl ?_
  refine a_iconst (pc := 2447) (v := 1) C dL_law_2447 rfl ?_
  refine a_iadd (pc := 2448) C dL_law_2448 ?_
  refine a_sld (pc := 2449) C dL_law_2449 (in_arg hi (by decide)) ?_
  refine a_aload_n (pc := 2450) (i := 0) C dL_law_2450 rfl rfl ?_
  refine a_iload (pc := 2451) (i := 4) C dL_law_2451 rfl ?_
  refine a_iconst (pc := 2453) (v := 2) C dL_law_2453 rfl ?_
  refine a_iadd (pc := 2454) C dL_law_2454 ?_
  refine a_sld (pc := 2455) C dL_law_2455 (in_arg hi (by decide)) ?_
  refine a_aload_n (pc := 2456) (i := 0) C dL_law_2456 rfl rfl ?_
  refine a_iload (pc := 2457) (i := 4) C dL_law_2457 rfl ?_
  refine a_iconst (pc := 2459) (v := 3) C dL_law_2459 rfl ?_
  refine a_iadd (pc := 2460) C dL_law_2460 ?_
  refine a_sld (pc := 2461) C dL_law_2461 (in_arg hi (by decide)) ?_
  refine a_aload_n (pc := 2462) (i := 0) C dL_law_2462 rfl rfl ?_
  refine a_iload (pc := 2463) (i := 4) C dL_law_2463 rfl ?_
  refine a_iconst (pc := 2465) (v := 4) C dL_law_2465 rfl ?_
  refine a_iadd (pc := 2466) C dL_law_2466 ?_
  refine a_sld (pc := 2467) C dL_law_2467 (in_arg hi (by decide)) ?_
  refine a_aload_n (pc := 2468) (i := 0) C dL_law_2468 rfl rfl ?_
  refine a_iload (pc := 2469) (i := 4) C dL_law_2469 rfl ?_
  refine a_iconst (pc := 2471) (v := 5) C dL_law_2471 rfl ?_
  refine a_iadd (pc := 2472) C dL_law_2472 ?_
  refine a_sld (pc := 2473) C dL_law_2473 (in_arg hi (by decide)) ?_
  refine a_aload_n (pc := 2474) (i := 0) C dL_law_2474 rfl rfl ?_
  refine a_iload (pc := 2475) (i := 4) C dL_law_2475 rfl ?_
  refine a_bipush (pc := 2477) (v := 6) C dL_law_2477 rfl ?_
  refine a_iadd (pc := 2479) C dL_law_2479 ?_
  refine a_sld (pc := 2480) C dL_law_2480 (in_arg hi (by decide)) ?_
  refine a_aload_n (pc := 2481) (i := 0) C dL_law_2481 rfl rfl ?_
  refine a_iload (pc := 2482) (i := 4) C dL_law_2482 rfl ?_
  refine a_bipush (pc := 2484) (v := 7) C dL_law_2484 rfl ?_
  refine a_iadd (pc := 2486) C dL_law_2486 ?_
  refine a_sld (pc := 2487) C dL_law_2487 (in_arg hi (by decide)) ?_
  refine a_perm (pw2 _ _ _ _) ?_
  refine a_xVi (pc := 2488) (As := [.int (xs (Int32.toNatClampNeg (i + 1))), .int (xs (Int32.toNatClampNeg (i + 2))), .int (xs (Int32.toNatClampNeg (i + 3))), .int (xs (Int32.toNatClampNeg (i + 4))), .int (xs (Int32.toNatClampNeg (i + 5))), .int (xs (Int32.toNatClampNeg (i + 6))), .int (xs (Int32.toNatClampNeg (i + 7)))]) (st := [.int r]) C (k_X12_leave (post := fun r2 y => r = r2 ∧ post x1 y) B hw) dL_law_2488 mth_X12_leave tml_L_190 (fun _ _ _ => trivial) Fz0_ok (rmLw (Nat.le_of_ble_eq_true rfl) (Nat.le_of_ble_eq_true rfl) hk hn) (Nat.le_of_ble_eq_true rfl) rfl rfl (ci := 12) rfl ⟨0, _, rfl⟩ (m := 30) (fun _ => rfl) (fun r2 u hw => ?_)
  generalize ((u1 (u1 y.1 0 u.1) 6 u.2.1, u1 (u1 (u1 (u1 (u1 (u1 (u1 (u1 y.2.1 10 u.2.2.1) 8 u.2.2.2.1) 9 u.2.2.2.2.1) 6 u.2.2.2.2.2.1) 7 u.2.2.2.2.2.2.1) 11 u.2.2.2.2.2.2.2.1) 12 u.2.2.2.2.2.2.2.2.1) 13 u.2.2.2.2.2.2.2.2.2, y.2.2) : YS) = y1 at hw ⊢
  refine a_perm (ws' := WL (cxG X) A x1 B y1 M o f) (pl' := pl) (pw2 _ _ _ _).symm ?_
  refine a_icmp_eq (pc := 2491) (tgt := 3322) C dL_law_2491 (by decide) (fun _ => ?_) (fun c => absurd hw.1 c)
  exact a_widen (by omega) (by omega) (kk _ _ hw.2)
set_option maxRecDepth 20000 in
theorem lc_broad {X : Ctx} {ka : KA} {b L : Nat} {xs : Nat → Int32} (C : Cok X cL_law 8 RL room_1 (FzL ka b L xs)) {k n : Nat} (hk : k + 1001 ≤ 601024) (hn : n + 6006 ≤ 7293033) {i : Int32} (hi : 0 ≤ i.toInt ∧ i.toInt + 10 ≤ L ∧ L ≤ 5120) {A B : Nat → Nat} {x : XS} {y : YS} {M : MK} {o : Nat} {f : Nat → Int64} {pl : Pool} {post : XS → YS → Prop} (hw : s1_broad pl x y (xs (Int32.toNatClampNeg (i + 1))) (xs (Int32.toNatClampNeg (i + 2))) post) (kk : ∀ x y, post x y → AW X 8 (k + 1001) (n + 6006) (WL (cxG X) A x B y M o f) pl 3322 [some (.ref b), some (.ref (A 0)), some (.ref (B 0)), some (.ref o), some (.int i), none, none, none] []) : AW X 8 k n (WL (cxG X) A x B y M o f) pl 2996 [some (.ref b), some (.ref (A 0)), some (.ref (B 0)), some (.ref o), some (.int i), none, none, none] [] := by
  refine a_aload_n (pc := 2996) (i := 1) C dL_law_2996 rfl rfl ?_
  refine a_aload_n (pc := 2997) (i := 0) C dL_law_2997 rfl rfl ?_
  refine a_iload (pc := 2998) (i := 4) C dL_law_2998 rfl ?_
  refine a_iconst (pc := 3000) (v := 1) C dL_law_3000 rfl ?_
  refine a_iadd (pc := 3001) C dL_law_3001 ?_
  refine a_sld (pc := 3002) C dL_law_3002 (in_arg hi (by decide)) ?_
  refine a_aload_n (pc := 3003) (i := 0) C dL_law_3003 rfl rfl ?_
  refine a_iload (pc := 3004) (i := 4) C dL_law_3004 rfl ?_
  refine a_iconst (pc := 3006) (v := 2) C dL_law_3006 rfl ?_
  refine a_iadd (pc := 3007) C dL_law_3007 ?_
  refine a_sld (pc := 3008) C dL_law_3008 (in_arg hi (by decide)) ?_
  refine a_perm (pw1 _ _ _) ?_
  refine a_xVi (pc := 3009) (As := [.int (xs (Int32.toNatClampNeg (i + 1))), .int (xs (Int32.toNatClampNeg (i + 2)))]) (st := []) C (k_X11_broad (ka := ka) (post := fun r x => s2_broad r x y (xs (Int32.toNatClampNeg (i + 1))) (xs (Int32.toNatClampNeg (i + 2))) post) A (hw)) dL_law_3009 mth_X11_broad tml_L_203 (fun _ _ h => h.1.1.1) (FzC_ok ka) (rmLw (Nat.le_of_ble_eq_true rfl) (Nat.le_of_ble_eq_true rfl) hk hn) (Nat.le_of_ble_eq_true rfl) rfl rfl (ci := 11) rfl ⟨0, _, rfl⟩ (m := 82) (fun _ => rfl) (fun r u hw => ?_)
  refine a_perm (ws' := WL (cxG X) A x B y M o f) (pl' := pl) (pw1 _ _ _).symm ?_
  show AW X 8 k n (WL (cxG X) A x B y M o f) pl 3012 [some (.ref b), some (.ref (A 0)), some (.ref (B 0)), some (.ref o), some (.int i), none, none, none] [.int r]
  refine a_aload_n (pc := 3012) (i := 2) C dL_law_3012 rfl rfl ?_
  refine a_aload_n (pc := 3013) (i := 0) C dL_law_3013 rfl rfl ?_
  refine a_iload (pc := 3014) (i := 4) C dL_law_3014 rfl ?_
  refine a_iconst (pc := 3016) (v := 1) C dL_law_3016 rfl ?_
  refine a_iadd (pc := 3017) C dL_law_3017 ?_
  refine a_sld (pc := 3018) C dL_law_3018 (in_arg hi (by decide)) ?_
  refine a_aload_n (pc := 3019) (i := 0) C dL_law_3019 rfl rfl ?_
  refine a_iload (pc := 3020) (i := 4) C dL_law_3020 rfl ?_
  refine a_iconst (pc := 3022) (v := 2) C dL_law_3022 rfl ?_
  refine a_iadd (pc := 3023) C dL_law_3023 ?_
  refine a_sld (pc := 3024) C dL_law_3024 (in_arg hi (by decide)) ?_
  refine a_perm (pw2 _ _ _ _) ?_
  refine a_xVi (pc := 3025) (As := [.int (xs (Int32.toNatClampNeg (i + 1))), .int (xs (Int32.toNatClampNeg (i + 2)))]) (st := [.int r]) C (k_X12_broad (post := fun r2 y => r = r2 ∧ post x y) B hw) dL_law_3025 mth_X12_broad tml_L_206 (fun _ _ _ => trivial) Fz0_ok (rmLw (Nat.le_of_ble_eq_true rfl) (Nat.le_of_ble_eq_true rfl) hk hn) (Nat.le_of_ble_eq_true rfl) rfl rfl (ci := 12) rfl ⟨0, _, rfl⟩ (m := 30) (fun _ => rfl) (fun r2 u hw => ?_)
  generalize ((u1 (u1 y.1 0 u.1) 6 u.2.1, u1 (u1 (u1 (u1 (u1 y.2.1 10 u.2.2.1) 8 u.2.2.2.1) 9 u.2.2.2.2.1) 6 u.2.2.2.2.2.1) 7 u.2.2.2.2.2.2, y.2.2) : YS) = y1 at hw ⊢
  refine a_perm (ws' := WL (cxG X) A x B y1 M o f) (pl' := pl) (pw2 _ _ _ _).symm ?_
  refine a_icmp_eq (pc := 3028) (tgt := 3322) C dL_law_3028 (by decide) (fun _ => ?_) (fun c => absurd hw.1 c)
  exact a_widen (by omega) (by omega) (kk _ _ hw.2)
set_option maxRecDepth 20000 in
theorem lc_edges {X : Ctx} {ka : KA} {b L : Nat} {xs : Nat → Int32} (C : Cok X cL_law 8 RL room_1 (FzL ka b L xs)) {k n : Nat} (hk : k + 1001 ≤ 601024) (hn : n + 6006 ≤ 7293033) {i : Int32} (hi : 0 ≤ i.toInt ∧ i.toInt + 10 ≤ L ∧ L ≤ 5120) {A B : Nat → Nat} {x : XS} {y : YS} {M : MK} {o : Nat} {f : Nat → Int64} {pl : Pool} {post : XS → YS → Prop} (hw : s1_edges pl x y (xs (Int32.toNatClampNeg (i + 1))) (xs (Int32.toNatClampNeg (i + 2))) (bz (xs (Int32.toNatClampNeg (i + 3)))) post) (kk : ∀ x y, post x y → AW X 8 (k + 1001) (n + 6006) (WL (cxG X) A x B y M o f) pl 3322 [some (.ref b), some (.ref (A 0)), some (.ref (B 0)), some (.ref o), some (.int i), none, none, none] []) : AW X 8 k n (WL (cxG X) A x B y M o f) pl 3033 [some (.ref b), some (.ref (A 0)), some (.ref (B 0)), some (.ref o), some (.int i), none, none, none] [] := by
  refine a_aload_n (pc := 3033) (i := 1) C dL_law_3033 rfl rfl ?_
  refine a_aload_n (pc := 3034) (i := 0) C dL_law_3034 rfl rfl ?_
  refine a_iload (pc := 3035) (i := 4) C dL_law_3035 rfl ?_
  refine a_iconst (pc := 3037) (v := 1) C dL_law_3037 rfl ?_
  refine a_iadd (pc := 3038) C dL_law_3038 ?_
  refine a_sld (pc := 3039) C dL_law_3039 (in_arg hi (by decide)) ?_
  refine a_aload_n (pc := 3040) (i := 0) C dL_law_3040 rfl rfl ?_
  refine a_iload (pc := 3041) (i := 4) C dL_law_3041 rfl ?_
  refine a_iconst (pc := 3043) (v := 2) C dL_law_3043 rfl ?_
  refine a_iadd (pc := 3044) C dL_law_3044 ?_
  refine a_sld (pc := 3045) C dL_law_3045 (in_arg hi (by decide)) ?_
  refine a_aload_n (pc := 3046) (i := 0) C dL_law_3046 rfl rfl ?_
  refine a_iload (pc := 3047) (i := 4) C dL_law_3047 rfl ?_
  refine a_iconst (pc := 3049) (v := 3) C dL_law_3049 rfl ?_
  refine a_iadd (pc := 3050) C dL_law_3050 ?_
  refine a_sld (pc := 3051) C dL_law_3051 (in_arg hi (by decide)) ?_
  refine a_bz (pc := 3052) C dL_law_3052 dL_law_3055 dL_law_3056 dL_law_3059 ?_
  refine a_perm (pw1 _ _ _) ?_
  refine a_xVi (pc := 3060) (As := [.int (xs (Int32.toNatClampNeg (i + 1))), .int (xs (Int32.toNatClampNeg (i + 2))), .int (bz (xs (Int32.toNatClampNeg (i + 3))))]) (st := []) C (k_X11_edges (post := fun r x => s2_edges r x y (xs (Int32.toNatClampNeg (i + 1))) (xs (Int32.toNatClampNeg (i + 2))) (bz (xs (Int32.toNatClampNeg (i + 3)))) post) A (hw)) dL_law_3060 mth_X11_edges tml_L_207 (fun _ _ _ => trivial) Fz0_ok (rmLw (Nat.le_of_ble_eq_true rfl) (Nat.le_of_ble_eq_true rfl) hk hn) (Nat.le_of_ble_eq_true rfl) rfl rfl (ci := 11) rfl ⟨0, _, rfl⟩ (m := 82) (fun _ => rfl) (fun r u hw => ?_)
  refine a_perm (ws' := WL (cxG X) A x B y M o f) (pl' := pl) (pw1 _ _ _).symm ?_
  show AW X 8 k n (WL (cxG X) A x B y M o f) pl 3063 [some (.ref b), some (.ref (A 0)), some (.ref (B 0)), some (.ref o), some (.int i), none, none, none] [.int r]
  refine a_aload_n (pc := 3063) (i := 2) C dL_law_3063 rfl rfl ?_
  refine a_aload_n (pc := 3064) (i := 0) C dL_law_3064 rfl rfl ?_
  refine a_iload (pc := 3065) (i := 4) C dL_law_3065 rfl ?_
  refine a_iconst (pc := 3067) (v := 1) C dL_law_3067 rfl ?_
  refine a_iadd (pc := 3068) C dL_law_3068 ?_
  refine a_sld (pc := 3069) C dL_law_3069 (in_arg hi (by decide)) ?_
  refine a_aload_n (pc := 3070) (i := 0) C dL_law_3070 rfl rfl ?_
  refine a_iload (pc := 3071) (i := 4) C dL_law_3071 rfl ?_
  refine a_iconst (pc := 3073) (v := 2) C dL_law_3073 rfl ?_
  refine a_iadd (pc := 3074) C dL_law_3074 ?_
  refine a_sld (pc := 3075) C dL_law_3075 (in_arg hi (by decide)) ?_
  refine a_aload_n (pc := 3076) (i := 0) C dL_law_3076 rfl rfl ?_
  refine a_iload (pc := 3077) (i := 4) C dL_law_3077 rfl ?_
  refine a_iconst (pc := 3079) (v := 3) C dL_law_3079 rfl ?_
  refine a_iadd (pc := 3080) C dL_law_3080 ?_
  refine a_sld (pc := 3081) C dL_law_3081 (in_arg hi (by decide)) ?_
  refine a_bz (pc := 3082) C dL_law_3082 dL_law_3085 dL_law_3086 dL_law_3089 ?_
  refine a_perm (pw2 _ _ _ _) ?_
  refine a_xVi (pc := 3090) (As := [.int (xs (Int32.toNatClampNeg (i + 1))), .int (xs (Int32.toNatClampNeg (i + 2))), .int (bz (xs (Int32.toNatClampNeg (i + 3))))]) (st := [.int r]) C (k_X12_edges (post := fun r2 y => r = r2 ∧ post x y) B hw) dL_law_3090 mth_X12_edges tml_L_211 (fun _ _ _ => trivial) Fz0_ok (rmLw (Nat.le_of_ble_eq_true rfl) (Nat.le_of_ble_eq_true rfl) hk hn) (Nat.le_of_ble_eq_true rfl) rfl rfl (ci := 12) rfl ⟨0, _, rfl⟩ (m := 30) (fun _ => rfl) (fun r2 u hw => ?_)
  generalize ((u1 (u1 y.1 0 u.1) 6 u.2.1, u1 (u1 (u1 (u1 (u1 y.2.1 10 u.2.2.1) 8 u.2.2.2.1) 9 u.2.2.2.2.1) 6 u.2.2.2.2.2.1) 7 u.2.2.2.2.2.2, y.2.2) : YS) = y1 at hw ⊢
  refine a_perm (ws' := WL (cxG X) A x B y1 M o f) (pl' := pl) (pw2 _ _ _ _).symm ?_
  refine a_icmp_eq (pc := 3093) (tgt := 3322) C dL_law_3093 (by decide) (fun _ => ?_) (fun c => absurd hw.1 c)
  exact a_widen (by omega) (by omega) (kk _ _ hw.2)
set_option maxRecDepth 20000 in
theorem lc_count {X : Ctx} {ka : KA} {b L : Nat} {xs : Nat → Int32} (C : Cok X cL_law 8 RL room_1 (FzL ka b L xs)) {k n : Nat} (hk : k + 1001 ≤ 601024) (hn : n + 6006 ≤ 7293033) {i : Int32} (hi : 0 ≤ i.toInt ∧ i.toInt + 10 ≤ L ∧ L ≤ 5120) {A B : Nat → Nat} {x : XS} {y : YS} {M : MK} {o : Nat} {f : Nat → Int64} {pl : Pool} {post : XS → YS → Prop} (hw : s1_count pl x y (xs (Int32.toNatClampNeg (i + 1))) post) (kk : ∀ x y, post x y → AW X 8 (k + 1001) (n + 6006) (WL (cxG X) A x B y M o f) pl 3322 [some (.ref b), some (.ref (A 0)), some (.ref (B 0)), some (.ref o), some (.int i), none, none, none] []) : AW X 8 k n (WL (cxG X) A x B y M o f) pl 3297 [some (.ref b), some (.ref (A 0)), some (.ref (B 0)), some (.ref o), some (.int i), none, none, none] [] := by
  refine a_aload_n (pc := 3297) (i := 1) C dL_law_3297 rfl rfl ?_
  refine a_aload_n (pc := 3298) (i := 0) C dL_law_3298 rfl rfl ?_
  refine a_iload (pc := 3299) (i := 4) C dL_law_3299 rfl ?_
  refine a_iconst (pc := 3301) (v := 1) C dL_law_3301 rfl ?_
  refine a_iadd (pc := 3302) C dL_law_3302 ?_
  refine a_sld (pc := 3303) C dL_law_3303 (in_arg hi (by decide)) ?_
  refine a_perm (pw1 _ _ _) ?_
  refine a_xVi (pc := 3304) (As := [.int (xs (Int32.toNatClampNeg (i + 1)))]) (st := []) C (k_X11_count (post := fun r x => s2_count r x y (xs (Int32.toNatClampNeg (i + 1))) post) A (hw)) dL_law_3304 mth_X11_count tml_L_220 (fun _ _ _ => trivial) Fz0_ok (rmLw (Nat.le_of_ble_eq_true rfl) (Nat.le_of_ble_eq_true rfl) hk hn) (Nat.le_of_ble_eq_true rfl) rfl rfl (ci := 11) rfl ⟨0, _, rfl⟩ (m := 82) (fun _ => rfl) (fun r u hw => ?_)
  refine a_perm (ws' := WL (cxG X) A x B y M o f) (pl' := pl) (pw1 _ _ _).symm ?_
  show AW X 8 k n (WL (cxG X) A x B y M o f) pl 3307 [some (.ref b), some (.ref (A 0)), some (.ref (B 0)), some (.ref o), some (.int i), none, none, none] [.int r]
  refine a_aload_n (pc := 3307) (i := 2) C dL_law_3307 rfl rfl ?_
  refine a_aload_n (pc := 3308) (i := 0) C dL_law_3308 rfl rfl ?_
  refine a_iload (pc := 3309) (i := 4) C dL_law_3309 rfl ?_
  refine a_iconst (pc := 3311) (v := 1) C dL_law_3311 rfl ?_
  refine a_iadd (pc := 3312) C dL_law_3312 ?_
  refine a_sld (pc := 3313) C dL_law_3313 (in_arg hi (by decide)) ?_
  refine a_perm (pw2 _ _ _ _) ?_
  refine a_xVi (pc := 3314) (As := [.int (xs (Int32.toNatClampNeg (i + 1)))]) (st := [.int r]) C (k_X12_count (post := fun r2 y => r = r2 ∧ post x y) B hw) dL_law_3314 mth_X12_count tml_L_223 (fun _ _ _ => trivial) Fz0_ok (rmLw (Nat.le_of_ble_eq_true rfl) (Nat.le_of_ble_eq_true rfl) hk hn) (Nat.le_of_ble_eq_true rfl) rfl rfl (ci := 12) rfl ⟨0, _, rfl⟩ (m := 30) (fun _ => rfl) (fun r2 u hw => ?_)
  generalize ((u1 y.1 0 u, y.2.1, y.2.2) : YS) = y1 at hw ⊢
  refine a_perm (ws' := WL (cxG X) A x B y1 M o f) (pl' := pl) (pw2 _ _ _ _).symm ?_
  refine a_icmp_eq (pc := 3317) (tgt := 3322) C dL_law_3317 (by decide) (fun _ => ?_) (fun c => absurd hw.1 c)
  exact a_widen (by omega) (by omega) (kk _ _ hw.2)
