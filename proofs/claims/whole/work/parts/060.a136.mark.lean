/-! mark -/
section MA
variable {T : Int → Int} {op arg : Nat → Int32}
/-- a segment carried to another -/
def caT (T : Int → Int) (a b : Int) : Int → Int := fun j => if 440 * b ≤ j ∧ j < 440 * b + 440 then T (440 * a + (j - 440 * b)) else T j
def caO (op : Nat → Int32) (a b : Nat) : Nat → Int32 := fun j => if 1100 * b ≤ j ∧ j < 1100 * b + 1100 then op (1100 * a + (j - 1100 * b)) else op j
theorem caT_i (h : i32 T) (a b : Int) : i32 (caT T a b) := fun k => by
  rw [caT]; split
  · exact h _
  · exact h _
theorem p_carry {a b : Nat} (ha : a < 6) (hb : b < 6) (hab : a ≠ b) {post : (Nat → Int32) → (Nat → Int32) → (Nat → Int32) → Prop} (h : post (zA (caT T a b)) (caO op a b) (caO arg a b)) : wp_X12_carry (zA T) op arg (zi a) (zi b) post := by
  simp only [wp_X12_carry]
  have e0 : zA T = zA (fun j => if 440 * (b : Int) ≤ j ∧ j < 440 * (b : Int) + ((0 : Nat) : Int) then T (440 * a + (j - 440 * b)) else T j) := by
    congr 1
    funext j
    rw [if_neg (by omega)]
  refine lp_for0 (fun i : Nat => (zA (fun j => if 440 * (b : Int) ≤ j ∧ j < 440 * (b : Int) + (i : Int) then T (440 * a + (j - 440 * b)) else T j), op, arg, zi a, zi b, zi (i : Int))) 440 (by rw [e0]; rfl) (fun kb => ?_) (fun i hi kb hkb => ?_)
  · simp (disch := omega) only [wp_X12_carry_L2, zi_lit, zi_le]
    refine ⟨fun _ => ?_, fun q => absurd (by decide) q⟩
    have eT : (fun j => if 440 * (b : Int) ≤ j ∧ j < 440 * (b : Int) + ((440 : Nat) : Int) then T (440 * a + (j - 440 * b)) else T j) = caT T a b := rfl
    rw [eT]
    have e1 : ∀ o : Nat → Int32, o = (fun j => if 1100 * b ≤ j ∧ j < 1100 * b + 0 then o (1100 * a + (j - 1100 * b)) else o j) := by
      intro o
      funext j
      rw [if_neg (by omega)]
    refine lp_for0 (fun i : Nat => (zA (caT T a b), (fun j => if 1100 * b ≤ j ∧ j < 1100 * b + i then op (1100 * a + (j - 1100 * b)) else op j), (fun j => if 1100 * b ≤ j ∧ j < 1100 * b + i then arg (1100 * a + (j - 1100 * b)) else arg j), zi a, zi b, zi (i : Int))) 1100 (by
      show (zA (caT T a b), op, arg, zi (a : Int), zi (b : Int), zi 0) = (zA (caT T a b), (fun j => if 1100 * b ≤ j ∧ j < 1100 * b + 0 then op (1100 * a + (j - 1100 * b)) else op j), (fun j => if 1100 * b ≤ j ∧ j < 1100 * b + 0 then arg (1100 * a + (j - 1100 * b)) else arg j), zi (a : Int), zi (b : Int), zi ((0 : Nat) : Int))
      rw [← e1 op, ← e1 arg]
      rfl) (fun kb2 => ?_) (fun i hi kb2 hkb2 => ?_)
    · simp (disch := omega) only [wp_X12_carry_L41, zi_lit, zi_le]
      exact ⟨fun _ => h, fun q => absurd (by decide) q⟩
    · have hni : ((i + 1 : Nat) : Int) = (i : Int) + 1 := by omega
      rw [hni] at hkb2
      simp (disch := omega) only [wp_X12_carry_L41, zi_lit, zi_le, forall_eq, zi_mul, zi_add, zi_in, zi_cl]
      have x1 : (1100 * (a : Int) + (i : Int)).toNat = 1100 * a + i := by omega
      have x2 : (1100 * (b : Int) + (i : Int)).toNat = 1100 * b + i := by omega
      rw [x1, x2]
      have up : ∀ o : Nat → Int32, upd (fun j => if 1100 * b ≤ j ∧ j < 1100 * b + i then o (1100 * a + (j - 1100 * b)) else o j) (1100 * b + i) ((fun j => if 1100 * b ≤ j ∧ j < 1100 * b + i then o (1100 * a + (j - 1100 * b)) else o j) (1100 * a + i)) = (fun j => if 1100 * b ≤ j ∧ j < 1100 * b + (i + 1) then o (1100 * a + (j - 1100 * b)) else o j) := by
        intro o
        funext j
        by_cases q : j = 1100 * b + i
        · subst q
          rw [pk_us]
          show (if _ then _ else _) = (if _ then _ else _)
          rw [if_neg (by omega), if_pos (by omega)]
          congr 1
          omega
        · rw [pk_un q]
          show (if _ then _ else _) = (if _ then _ else _)
          by_cases q2 : 1100 * b ≤ j ∧ j < 1100 * b + i
          · rw [if_pos q2, if_pos (by omega)]
          · rw [if_neg q2, if_neg (by omega)]
      rw [up op, up arg]
      exact ⟨fun q => by omega, fun _ => ⟨by omega, by omega, by omega, by omega, hkb2⟩⟩
  · have hni : ((i + 1 : Nat) : Int) = (i : Int) + 1 := by omega
    rw [hni] at hkb
    simp (disch := omega) only [wp_X12_carry_L2, zi_lit, zi_le, forall_eq, zi_mul, zi_add, zi_in, zA_get, zA_upd]
    have up : upI (fun j => if 440 * (b : Int) ≤ j ∧ j < 440 * (b : Int) + (i : Int) then T (440 * a + (j - 440 * b)) else T j) (440 * (b : Int) + (i : Int)) (if 440 * (b : Int) ≤ 440 * (a : Int) + (i : Int) ∧ 440 * (a : Int) + (i : Int) < 440 * (b : Int) + (i : Int) then T (440 * a + (440 * (a : Int) + (i : Int) - 440 * b)) else T (440 * (a : Int) + (i : Int))) = (fun j => if 440 * (b : Int) ≤ j ∧ j < 440 * (b : Int) + ((i : Int) + 1) then T (440 * a + (j - 440 * b)) else T j) := by
      funext j
      by_cases q : j = 440 * b + i
      · subst q
        rw [upI_s, if_neg (by omega), if_pos (by omega)]
        congr 1
        omega
      · rw [upI_n q]
        by_cases q2 : 440 * (b : Int) ≤ j ∧ j < 440 * (b : Int) + (i : Int)
        · rw [if_pos q2, if_pos (by omega)]
        · rw [if_neg q2, if_neg (by omega)]
    rw [up]
    exact ⟨fun q => by omega, fun _ => ⟨by omega, by omega, hkb⟩⟩
/-- a row put down, or taken up again -/
theorem p_carries0 {n : Nat} {f mo : Int → Int} {b : Int} (hn : n < 100) (hb : 0 ≤ b ∧ b + n ≤ 404) (hf : i32 f) (hm : i32 mo) {post : (Nat → Int32) → (Nat → Int32) → Prop} (h : ∀ mo' : Int → Int, i32 mo' → (∀ j, mo' j = if b ≤ j ∧ j < b + n then f (j - b) else mo j) → post (zA f) (zA mo')) : wp_X12_carries n (zA f) (zA mo) (zi b) (zi n) 0 post := by
  simp only [wp_X12_carries]
  refine lp_inv (fun i st => ∃ mo' : Int → Int, st = (zA f, zA mo', zi b, zi n, 0, zi (i : Int)) ∧ i32 mo' ∧ ∀ j, mo' j = if b ≤ j ∧ j < b + (i : Int) then f (j - b) else mo j) n ?_ ?_ 0 (Nat.zero_le _) ⟨mo, rfl, hm, fun j => by rw [if_neg (by omega)]⟩
  · rintro st ⟨mo', rfl, h1, h2⟩ kb
    simp only [wp_X12_carries_L3]
    rw [zi_le (by omega)]
    exact ⟨fun _ => h mo' h1 h2, fun q => absurd (Int.le_refl _) q⟩
  · rintro i hi st ⟨mo', rfl, h1, h2⟩ kb hkb
    have hni : ((i + 1 : Nat) : Int) = (i : Int) + 1 := by omega
    simp only [wp_X12_carries_L3]
    simp (disch := omega) only [zi_lit, zi_le, forall_eq, zi_add, zi_in, zA_get, zA_upd]
    refine ⟨fun q => by omega, fun _ => ⟨fun _ => ⟨by omega, by omega, hkb _ ⟨_, by rw [hni]; rfl, i32_up h1 (hf i), fun j => ?_⟩⟩, fun q => absurd trivial q⟩⟩
    by_cases q : j = b + i
    · rw [q, upI_s, if_pos (by omega), show b + (i : Int) - b = i by omega]
    · rw [upI_n q, h2 j]
      by_cases q2 : b ≤ j ∧ j < b + (i : Int)
      · rw [if_pos q2, if_pos (by omega)]
      · rw [if_neg q2, if_neg (by omega)]
theorem p_carries1 {n : Nat} {f mo : Int → Int} {b : Int} (hn : n < 100) (hb : 0 ≤ b ∧ b + n ≤ 404) (hf : i32 f) (hm : i32 mo) {post : (Nat → Int32) → (Nat → Int32) → Prop} (h : ∀ f' : Int → Int, i32 f' → (∀ j, 0 ≤ j → j < (n : Int) → f' j = mo (b + j)) → post (zA f') (zA mo)) : wp_X12_carries n (zA f) (zA mo) (zi b) (zi n) 1 post := by
  simp only [wp_X12_carries]
  refine lp_inv (fun i st => ∃ f' : Int → Int, st = (zA f', zA mo, zi b, zi n, 1, zi (i : Int)) ∧ i32 f' ∧ ∀ j, 0 ≤ j → j < (i : Int) → f' j = mo (b + j)) n ?_ ?_ 0 (Nat.zero_le _) ⟨f, rfl, hf, fun j a c => by omega⟩
  · rintro st ⟨f', rfl, h1, h2⟩ kb
    simp only [wp_X12_carries_L3]
    rw [zi_le (by omega)]
    exact ⟨fun _ => h f' h1 h2, fun q => absurd (Int.le_refl _) q⟩
  · rintro i hi st ⟨f', rfl, h1, h2⟩ kb hkb
    have hni : ((i + 1 : Nat) : Int) = (i : Int) + 1 := by omega
    simp only [wp_X12_carries_L3]
    rw [zi_le (by omega)]
    refine ⟨fun q => by omega, fun _ => ⟨fun q => absurd q (by decide), fun _ => ?_⟩⟩
    simp (disch := omega) only [zi_lit, forall_eq, zi_add, zi_in, zA_get, zA_upd]
    refine ⟨by omega, by omega, hkb _ ⟨_, by rw [hni]; rfl, i32_up h1 (hm (b + i)), fun j a c => ?_⟩⟩
    by_cases q : j = i
    · rw [q, upI_s]
    · rw [upI_n q]; exact h2 j a (by omega)
theorem sgT_ca {a b s : Nat} (hb : s ≠ b) : sgT (caT T a b) s = sgT T s := by
  funext j
  rw [sgT, sgT]
  by_cases q : 0 ≤ j ∧ j < 440
  · rw [if_pos q, if_pos q, caT, if_neg]
    intro z
    omega
  · rw [if_neg q, if_neg q]
theorem sgO_ca {a b s : Nat} (hb : s ≠ b) {k : Nat} (hk : k < 1100) : sgO (caO op a b) s k = sgO op s k := by
  rw [sgO, sgO, caO, if_neg]
  intro z
  omega
theorem sgO_in {a b : Nat} {k : Nat} (hk : k < 1100) : sgO (caO op a b) b k = sgO op a k := by
  rw [sgO, sgO, caO, if_pos (by omega)]
  congr 1
  omega
theorem sgT_in {a b : Nat} : sgT (caT T a b) b = sgT T a := by
  funext j
  rw [sgT, sgT]
  by_cases q : 0 ≤ j ∧ j < 440
  · rw [if_pos q, if_pos q, caT, if_pos (by omega)]
    congr 1
    omega
  · rw [if_neg q, if_neg q]
theorem sgT_i (h : i32 T) (s : Int) : i32 (sgT T s) := fun k => by
  rw [sgT]; split
  · exact h _
  · omega
theorem agS_sg0 (h : i32 T) : agS T (sgT T 0) := ⟨sgT_i h 0, fun j a b => by rw [sgT, if_pos ⟨a, b⟩]; congr 1; omega⟩
theorem agS_sg0' (h : i32 T) : agS (sgT T 0) T := ⟨h, fun j a b => by rw [sgT, if_pos ⟨a, b⟩]; congr 1; omega⟩
theorem mkTB_ca {pl : Pool} {mo mo' : Int → Int} {k a b : Nat} {Z : TS} (h : mkTB T mo op arg pl k Z) (hb : 2 + k ≠ b) (hi : i32 mo') (hm : ∀ j, 101 * (k : Int) ≤ j → j < 101 * (k : Int) + 101 → mo' j = mo j) : mkTB (caT T a b) mo' (caO op a b) (caO arg a b) pl k Z := by
  obtain ⟨vf, h1, h2⟩ := h
  have e : sgT (caT T a b) (2 + (k : Int)) = sgT T (2 + (k : Int)) := by
    have := sgT_ca (T := T) (a := a) (b := b) (s := 2 + k) hb
    rwa [show ((2 + k : Nat) : Int) = 2 + (k : Int) by omega] at this
  obtain ⟨sl, al, kd, hg, pc, fc, tc, g1, g2, g3, ⟨c1, c2, c3⟩, g5⟩ := id h1
  have b1 := c1.1
  have b2 := c2.1
  have b3 := c3.1
  refine ⟨vf, ?_, ?_⟩
  · rw [e, hm (101 * k) (by omega) (by omega), hm (101 * k + 1) (by omega) (by omega), hm (101 * k + 2) (by omega) (by omega)]
    refine twB_ch h1 ⟨fun j => hi _, fun j j0 j1 => hm _ (by omega) (by omega)⟩ ⟨fun j => hi _, fun j j0 j1 => hm _ (by omega) (by omega)⟩ ⟨fun j => hi _, fun j j0 j1 => hm _ (by omega) (by omega)⟩
  · rw [e]
    exact cdA_seg h2 (fun q hq => ⟨sgO_ca hb hq, sgO_ca hb hq⟩) (fun _ _ _ => rfl) g3.1.1.2.2.2.2.1.2
/-- the class keeps a town under a mark, or takes it up again -/
theorem i_mark {A : Nat → Nat} {x : XS} {y : YS} {M : MK} {pl : Pool} (I : Inv A x y M pl) {pl' : Pool} (hpl : ∀ z ∈ pl, z ∈ pl') (a0 a1 : Int32) (h01 : a1 = 0 ∨ a1 = 1) : s1_mark pl' x M y a0 a1 (fun x M y => Inv A x y M pl) := by
  obtain ⟨k0, rfl, b0⟩ := zi_ex a0
  obtain ⟨T, vf, ps, fo, td, pr, fr, tr, tz, tp, hC, hR, hD, hM⟩ := I
  obtain ⟨sl, al, kd, hg, ex, nt, ln, pc, fc, tc, C, ⟨hbr, hsu, haw, hln, hal, hsl⟩, ⟨cps, cfo, ctd⟩, spo, ⟨vfo, vtd⟩, ⟨e1, e2, e3, e4, e5, e6⟩, ⟨e7, e8, e9, e10, e11, e12⟩, e13, e14, e15, e16, e17, e18⟩ := RC_open hC
  have hR' := hR
  have hD0 := hD
  obtain ⟨⟨r1, hcd⟩, ⟨r2, r3, r4, r5, r6, r7⟩, ⟨r8, r9, htz, htp, htk⟩, r10⟩ := hR'
  obtain ⟨sd, sy, sn, shA, c0, ⟨d1, d2, d3, d4, d5⟩, hday, hc0⟩ := hD
  have hT := C.1.1
  obtain ⟨ex0, nt0, ln0, hB, hsk, hx0, heb, htp1, htp2⟩ := hC
  obtain ⟨hm1, im, mo, m1, m2, mi1, mi2, hm2⟩ := hM
  have i1 := cps.1
  have i2 := cfo.1
  have i3 := ctd.1
  have no : ¬ (0 ≤ k0 ∧ k0 < 4) → s2_mark 0 x M y (zi k0) a1 (fun x M y => Inv A x y M pl) := by
    intro q
    unfold s2_mark
    simp only [wp_X12_mark]
    rw [show (0 : Int32) = zi 0 from rfl, show (3 : Int32) = zi 3 from rfl]
    refine p_within b0 (by omega) (by omega) (fun z => absurd ⟨z.1, by omega⟩ q) (fun z => ⟨fun _ => ⟨trivial, ?_⟩, fun u => absurd rfl u⟩)
    exact ⟨T, vf, ps, fo, td, pr, fr, tr, tz, tp, ⟨ex0, nt0, ln0, hB, hsk, hx0, heb, htp1, htp2⟩, hR, ⟨sd, sy, sn, shA, c0, ⟨d1, d2, d3, d4, d5⟩, hday, hc0⟩, hm1, im, mo, m1, m2, mi1, mi2, hm2⟩
  unfold s1_mark wpMark
  rw [zi_in (by omega)]
  refine ⟨fun q => no (by omega), fun q => ?_⟩
  obtain ⟨n, rfl⟩ := Int.eq_ofNat_of_zero_le q.1
  have hn4 : n < 4 := by omega
  rw [zi_cl (by omega), Int.toNat_natCast]
  have mk := hm2 n hn4
  have imr := mi1 n
  refine ⟨fun h1 => ⟨fun hn => ?_, fun p hp => ?_⟩, fun h0 => ?_⟩
  · -- nothing was kept
    unfold s2_mark
    simp only [wp_X12_mark]
    rw [show (0 : Int32) = zi 0 from rfl, show (3 : Int32) = zi 3 from rfl, m1]
    refine p_within b0 (by omega) (by omega) (fun _ => ⟨fun z => absurd z (by decide), fun _ => ⟨fun z => absurd z h1, fun _ => ⟨vp_zi (by omega) (by decide), ?_⟩⟩⟩) (fun z => absurd (by omega) z)
    rw [zA_get (by omega), mk.1 hn]
    refine ⟨fun z => absurd rfl z, fun _ => ⟨trivial, ?_⟩⟩
    exact ⟨T, vf, ps, fo, td, pr, fr, tr, tz, tp, ⟨ex0, nt0, ln0, hB, hsk, hx0, heb, htp1, htp2⟩, hR, ⟨sd, sy, sn, shA, c0, ⟨d1, d2, d3, d4, d5⟩, hday, hc0⟩, hm1, im, mo, rfl, m2, mi1, mi2, hm2⟩
  · -- taken up again
    have h11 : a1 = 1 := by rcases h01 with z | z; exact absurd z h1; exact z
    obtain ⟨hi0, vfm, hBm, hcm⟩ := mk.2 p hp
    unfold wpM2
    intro pl2 hpl2
    refine p_copyT (fun z hz => hpl2 _ (hpl _ hz)) hBm (fun u0 u1' u2 u3 b4 b5 c6 c7 c8 q9 q10 u11 b12 u13 b14 u15 b16 hY => ?_)
    -- the town of the reference behind it
    have caS : agS (sgT T (2 + (n : Int))) (caT T (((2 + n : Nat) : Int)) ((0 : Nat) : Int)) := ⟨caT_i hT.1 _ _, fun j j0 j1 => by rw [caT, if_pos (by omega), sgT, if_pos ⟨j0, j1⟩]; congr 1; omega⟩
    have hBx : ∀ Y : TS, _ → _ → _ → _ → twB pl (caT T (((2 + n : Nat) : Int)) ((0 : Nat) : Int)) vfm Y (mo (101 * n)) (mo (101 * n + 1)) (mo (101 * n + 2)) (fun j => mo (101 * n + 3 + j)) (fun j => mo (101 * n + 11 + j)) (fun j => mo (101 * n + 41 + j)) := fun Y y1 y2 y3 y4 => twB_S (hY Y y1 y2 y3 y4) caS
    unfold wpM1
    intro pl3 hpl3
    have hB1 := hBx (u1 (u1 (u1 (u1 (u1 (u1 (u1 x.1 0 u0) 1 u1') 2 u2) 3 u3) 4 u11) 5 u13) 6 u15, u1 (u1 (u1 (u1 (u1 x.2.1 0 b4) 1 b5) 2 b12) 3 b14) 4 b16, u1 (u1 (u1 x.2.2.1 0 c6) 1 c7) 2 c8, u1 (u1 x.2.2.2.1 0 q9) 1 q10) ⟨rfl, rfl, rfl, rfl, rfl, rfl, rfl⟩ ⟨rfl, rfl, rfl, rfl, rfl⟩ ⟨rfl, rfl, rfl⟩ ⟨rfl, rfl⟩
    obtain ⟨sl', al', kd', hg', pc', fc', tc', ⟨g1, g2, g3, g4, g5, g6⟩, gg, ⟨⟨t1, t2, t3⟩, ⟨t4, t5, t6, t6'⟩, ⟨t7, t8, t9⟩, t10⟩, ⟨cc1, cc2, cc3⟩, gg2⟩ := id hB1
    have hbuild := p_build (pl := pl3) (vf := vfm) (suns := q9) (aw := c6) t1 t4 (suR_mono (fun z hz => hpl3 _ (hpl _ hz)) t6) t7 (rw0 := XS.t_sky_roofs_words x) (gw0 := XS.t_sky_ground_words x) (cw0 := XS.t_sky_casts_words x) (sw0 := XS.t_sky_shades_words x) (t1 := XS.t_sky_next x) (t2 := XS.t_sky_lines x) (post := fun w0 w1 w2 w3 w4 w5 => s2_mark 1 (u1 (u1 (u1 (u1 (u1 (u1 (u1 x.1 0 u0) 1 u1') 2 u2) 3 u3) 4 u11) 5 u13) 6 u15, u1 (u1 (u1 (u1 (u1 (u1 (u1 x.2.1 0 b4) 1 b5) 2 b12) 3 b14) 4 b16) 18 w2) 17 w3, u1 (u1 (u1 (u1 (u1 (u1 (u1 x.2.2.1 0 c6) 1 c7) 2 c8) 8 w0) 9 w1) 7 w4) 6 w5, u1 (u1 x.2.2.2.1 0 q9) 1 q10, x.2.2.2.2.1, x.2.2.2.2.2.1, x.2.2.2.2.2.2) M y (zi n) a1 (fun x M y => Inv A x y M pl)) (fun rw' gw nt' ln' cw sw hk => ?_)
    · rw [← g6, ← g1, ← g2] at hbuild
      exact hbuild
    · unfold s2_mark
      simp only [wp_X12_mark, wp_X12_mark_b29, wp_X12_mark_b137]
      rw [h11, r1, m1, m2, r3, r5, r7, show (0 : Int32) = zi 0 from rfl, show (3 : Int32) = zi 3 from rfl]
      refine p_within b0 (by omega) (by omega) (fun _ => ⟨fun z => absurd z (by decide), fun _ => ⟨fun z => absurd z (by decide), fun _ => ⟨vp_zi (by omega) (by decide), ?_⟩⟩⟩) (fun z => absurd (by omega) z)
      rw [zA_get (by omega), zi_eq (by omega)]
      refine ⟨fun _ => ?_, fun z => absurd z hi0⟩
      simp only [forall_eq]
      refine ⟨fun z => absurd z (by decide), fun _ => ?_⟩
      rw [show (2 : Int32) + zi (n : Int) = zi ((2 + n : Nat) : Int) by rw [show (2 : Int32) = zi 2 from rfl, zi_add]; rfl]
      refine p_carry (a := 2 + n) (b := 0) (by omega) (by omega) (by omega) ?_
      simp (disch := omega) only [zi_lit, zi_mul, zi_add, zi_in, zA_get]
      refine ⟨by omega, by omega, by omega, ?_⟩
      refine p_carries1 (n := 8) (b := 101 * n + 3) (by decide) (by omega) cps.2.2.1 mi2 (fun f1 if1 ef1 => ?_)
      refine p_carries1 (n := 30) (b := 101 * n + 11) (by decide) (by omega) cfo.2.2.1 mi2 (fun f2 if2 ef2 => ?_)
      refine p_carries1 (n := 60) (b := 101 * n + 41) (by decide) (by omega) ctd.2.2.1 mi2 (fun f3 if3 ef3 => ?_)
      refine ⟨trivial, ?_⟩
      have b1 := cc1.1
      have b2 := cc2.1
      have b3 := cc3.1
      refine ⟨caT T (((2 + n : Nat) : Int)) ((0 : Nat) : Int), vfm, mo (101 * n), mo (101 * n + 1), mo (101 * n + 2), f1, f2, f3, tz, tp, ⟨ex0, nt', ln', twB_ch hB1 ⟨if1, fun j a b => ef1 j a (by omega)⟩ ⟨if2, fun j a b => ef2 j a (by omega)⟩ ⟨if3, fun j a b => ef3 j a (by omega)⟩, ⟨rfl, rfl, hk⟩, hx0, heb, htp1, htp2⟩, ⟨⟨rfl, ?_⟩, ⟨rfl, rfl, rfl, rfl, rfl, rfl⟩, hR.2.2⟩, ⟨-1, sy, sn, shA, c0, ⟨rfl, d2, d3, d4, d5⟩, ⟨by omega, hday.2.1, hday.2.2.1, hday.2.2.2.1, fun z => absurd z (by decide)⟩, hc0⟩, hm1, im, mo, rfl, rfl, mi1, mi2, fun k hk4 => ⟨(hm2 k hk4).1, fun p' hp' => ⟨((hm2 k hk4).2 p' hp').1, mkTB_ca ((hm2 k hk4).2 p' hp').2 (by omega) mi2 (fun _ _ _ => rfl)⟩⟩⟩
      refine cdA_seg hcm (fun k hk2 => ⟨?_, ?_⟩) (fun j a b => caS.2 j (by omega) b) (by
        obtain ⟨_, _, _, _, _, _, _, _, _, ⟨⟨tt, _⟩, _⟩, _⟩ := hBm
        exact tt.2.2.2.2.1.2)
      · have := sgO_in (op := YS.t_op y) (a := 2 + n) (b := 0) hk2
        rw [sgO, Nat.mul_zero, Nat.zero_add] at this
        exact this
      · have := sgO_in (op := YS.t_arg y) (a := 2 + n) (b := 0) hk2
        rw [sgO, Nat.mul_zero, Nat.zero_add] at this
        exact this
  · -- kept
    have keep : ∀ (X : XS) (M' : MK) (Z : TS) (B : Nat → Nat), RC T vf ps fo td pr fr tr tz tp pl X → twB pl T vf Z ps fo td pr fr tr → M' = u1 M n (some (B, Z)) → (∀ k, k < 4 → XS.t_marks X k = (M' k).map (fun p => p.1 0)) → s2_mark 1 X M' y (zi n) a1 (fun x M y => Inv A x y M pl) := by
      intro X M' Z B hX hZ hM' hmk
      unfold s2_mark
      simp only [wp_X12_mark, wp_X12_mark_b29, wp_X12_mark_b137]
      rw [h0, r1, r2, m1, m2, r3, r4, r5, r6, r7, show (3 : Int32) = zi 3 from rfl]
      refine p_within (a := 0) b0 (by omega) (by omega) (fun _ => ⟨fun z => absurd z (by decide), fun _ => ⟨fun _ => ?_, fun z => absurd rfl z⟩⟩) (fun z => absurd (by omega) z)
      simp only [forall_eq]
      refine ⟨fun _ => ⟨vp_zi (by omega) (by decide), ?_⟩, fun z => absurd trivial z⟩
      have nar : vp_nar .boolean 1 = zi 1 := by decide
      rw [nar, zA_upd (by omega), show (2 : Int32) + zi (n : Int) = zi ((2 + n : Nat) : Int) by rw [show (2 : Int32) = zi 2 from rfl, zi_add]; rfl]
      refine p_carry (a := 0) (b := 2 + n) (by omega) (by omega) (by omega) ?_
      simp (disch := omega) only [zi_lit, zi_mul, zi_add, zi_in, zA_upd]
      refine ⟨by omega, by omega, by omega, ?_⟩
      have im3 : i32 (upI (upI (upI mo (101 * n) ps) (101 * n + 1) fo) (101 * n + 2) td) := i32_up (i32_up (i32_up mi2 (by omega)) (by omega)) (by omega)
      refine p_carries0 (n := 8) (b := 101 * n + 3) (by decide) (by omega) cps.2.2.1 im3 (fun mo1 io1 eo1 => ?_)
      refine p_carries0 (n := 30) (b := 101 * n + 11) (by decide) (by omega) cfo.2.2.1 io1 (fun mo2 io2 eo2 => ?_)
      refine p_carries0 (n := 60) (b := 101 * n + 41) (by decide) (by omega) ctd.2.2.1 io2 (fun mo3 io3 eo3 => ?_)
      refine ⟨trivial, ?_⟩
      have eo : ∀ j, mo3 j = if 101 * (n : Int) + 41 ≤ j ∧ j < 101 * (n : Int) + 101 then tr (j - (101 * n + 41)) else if 101 * (n : Int) + 11 ≤ j ∧ j < 101 * (n : Int) + 41 then fr (j - (101 * n + 11)) else if 101 * (n : Int) + 3 ≤ j ∧ j < 101 * (n : Int) + 11 then pr (j - (101 * n + 3)) else upI (upI (upI mo (101 * n) ps) (101 * n + 1) fo) (101 * n + 2) td j := by
        intro j
        rw [eo3, eo2, eo1]
        have c1 : (101 * (n : Int) + 41 ≤ j ∧ j < 101 * (n : Int) + 41 + ((60 : Nat) : Int)) ↔ (101 * (n : Int) + 41 ≤ j ∧ j < 101 * (n : Int) + 101) := by omega
        have c2 : (101 * (n : Int) + 11 ≤ j ∧ j < 101 * (n : Int) + 11 + ((30 : Nat) : Int)) ↔ (101 * (n : Int) + 11 ≤ j ∧ j < 101 * (n : Int) + 41) := by omega
        have c3 : (101 * (n : Int) + 3 ≤ j ∧ j < 101 * (n : Int) + 3 + ((8 : Nat) : Int)) ↔ (101 * (n : Int) + 3 ≤ j ∧ j < 101 * (n : Int) + 11) := by omega
        simp only [c1, c2, c3]
      have aS : agS T (caT T ((0 : Nat) : Int) (((2 + n : Nat) : Int))) := ⟨caT_i hT.1 _ _, fun j j0 j1 => by rw [caT, if_neg (by omega)]⟩
      refine ⟨caT T ((0 : Nat) : Int) (((2 + n : Nat) : Int)), vf, ps, fo, td, pr, fr, tr, tz, tp, ?_, ⟨⟨rfl, ?_⟩, ⟨rfl, rfl, rfl, rfl, rfl, rfl⟩, hR.2.2⟩, ⟨sd, sy, sn, shA, c0, ⟨d1, d2, d3, d4, d5⟩, dayI_S hday hT aS, hc0⟩, hmk, upI im n 1, mo3, rfl, rfl, i32_up mi1 (by omega), io3, fun k hk4 => ?_⟩
      · obtain ⟨ex1, nt1, ln1, hB1, hsk1, hx1, rest⟩ := hX
        exact ⟨ex1, nt1, ln1, twB_S hB1 aS, ⟨hsk1.1, hsk1.2.1, skR_S hsk1.2.2 hT aS⟩, hx1, rest⟩
      · refine cdA_seg hcd (fun k hk2 => ?_) (fun j a b => aS.2 j (by omega) b) hT.2.2.2.2.1.2
        have z1 := sgO_ca (op := YS.t_op y) (a := 0) (b := 2 + n) (s := 0) (by omega) hk2
        have z2 := sgO_ca (op := YS.t_arg y) (a := 0) (b := 2 + n) (s := 0) (by omega) hk2
        simp only [sgO, Nat.mul_zero, Nat.zero_add] at z1 z2
        exact ⟨z1, z2⟩
      · rw [hM']
        by_cases q2 : k = n
        · subst q2
          have eu : u1 M k (some (B, Z)) k = some (B, Z) := by simp [u1]
          rw [eu, upI_s]
          refine ⟨fun z => absurd z (by simp), fun p' hp' => ⟨by decide, ?_⟩⟩
          cases hp'
          have sin : sgT (caT T ((0 : Nat) : Int) (((2 + k : Nat) : Int))) (2 + (k : Int)) = sgT T 0 := by
            have := sgT_in (T := T) (a := 0) (b := 2 + k)
            rw [show ((2 + k : Nat) : Int) = 2 + (k : Int) by omega] at this ⊢
            exact this
          refine ⟨vf, ?_, ?_⟩
          · rw [sin, eo (101 * k), eo (101 * k + 1), eo (101 * k + 2)]
            rw [if_neg (by omega), if_neg (by omega), if_neg (by omega), if_neg (by omega), if_neg (by omega), if_neg (by omega), if_neg (by omega), if_neg (by omega), if_neg (by omega)]
            rw [upI_n (show (101 * (k : Int)) ≠ 101 * k + 2 by omega), upI_n (show (101 * (k : Int)) ≠ 101 * k + 1 by omega), upI_s, upI_n (show (101 * (k : Int) + 1) ≠ 101 * k + 2 by omega), upI_s, upI_s]
            refine twB_ch (twB_S hZ (agS_sg0 hT.1)) ⟨fun j => io3 _, fun j a b => ?_⟩ ⟨fun j => io3 _, fun j a b => ?_⟩ ⟨fun j => io3 _, fun j a b => ?_⟩
            · rw [eo, if_neg (by omega), if_neg (by omega), if_pos (by omega)]; congr 1; omega
            · rw [eo, if_neg (by omega), if_pos (by omega)]; congr 1; omega
            · rw [eo, if_pos (by omega)]; congr 1; omega
          · rw [sin]
            refine cdA_seg hcd (fun q hq => ⟨?_, ?_⟩) (fun j a b => (agS_sg0 hT.1).2 j (by omega) b) hT.2.2.2.2.1.2
            · show sgO (caO (YS.t_op y) 0 (2 + k)) (2 + k) q = _
              rw [sgO_in hq, sgO, Nat.mul_zero, Nat.zero_add]
            · show sgO (caO (YS.t_arg y) 0 (2 + k)) (2 + k) q = _
              rw [sgO_in hq, sgO, Nat.mul_zero, Nat.zero_add]
        · have eu : u1 M n (some (B, Z)) k = M k := by
            have : Nat.beq k n = false := by
              cases hb : Nat.beq k n with
              | false => rfl
              | true => exact absurd (Nat.eq_of_beq_eq_true hb) q2
            simp [u1, this]
          rw [eu, upI_n (by omega)]
          refine ⟨(hm2 k hk4).1, fun p' hp' => ⟨((hm2 k hk4).2 p' hp').1, mkTB_ca ((hm2 k hk4).2 p' hp').2 (by omega) io3 (fun j a b => ?_)⟩⟩
          rw [eo, if_neg (by omega), if_neg (by omega), if_neg (by omega), upI_n (by omega), upI_n (by omega), upI_n (by omega)]
    refine ⟨fun hn B => ?_, fun p hp => ?_⟩
    · unfold wpM3
      intro pl2 hpl2
      refine p_copyT (Z := tsX x) (fun z hz => hpl2 _ (hpl _ hz)) hB (fun u0 u1' u2 u3 b4 b5 c6 c7 c8 q9 q10 u11 b12 u13 b14 u15 b16 hY => ?_)
      refine keep _ _ _ B ⟨ex0, nt0, ln0, hB, hsk, hx0, heb, htp1, htp2⟩ (hY _ ⟨rfl, rfl, rfl, rfl, rfl, rfl, rfl⟩ ⟨rfl, rfl, rfl, rfl, rfl⟩ ⟨rfl, rfl, rfl⟩ ⟨rfl, rfl⟩) rfl (fun k hk4 => ?_)
      show va_up (XS.t_marks x) n (some (B 0)) k = _
      by_cases q2 : k = n
      · subst q2
        rw [va_up_self]
        simp [u1]
      · have : Nat.beq k n = false := by
          cases hb : Nat.beq k n with
          | false => rfl
          | true => exact absurd (Nat.eq_of_beq_eq_true hb) q2
        rw [va_up_ne _ _ q2, hm1 k hk4]
        simp [u1, this]
    · unfold wpM3
      intro pl2 hpl2
      refine p_copyT (Z := tsX x) (fun z hz => hpl2 _ (hpl _ hz)) hB (fun u0 u1' u2 u3 b4 b5 c6 c7 c8 q9 q10 u11 b12 u13 b14 u15 b16 hY => ?_)
      refine keep _ _ _ p.1 ⟨ex0, nt0, ln0, hB, hsk, hx0, heb, htp1, htp2⟩ (hY _ ⟨rfl, rfl, rfl, rfl, rfl, rfl, rfl⟩ ⟨rfl, rfl, rfl, rfl, rfl⟩ ⟨rfl, rfl, rfl⟩ ⟨rfl, rfl⟩) rfl (fun k hk4 => ?_)
      by_cases q2 : k = n
      · subst q2
        rw [hm1 k hk4, hp]
        simp [u1]
      · have : Nat.beq k n = false := by
          cases hb : Nat.beq k n with
          | false => rfl
          | true => exact absurd (Nat.eq_of_beq_eq_true hb) q2
        rw [hm1 k hk4]
        simp [u1, this]
end MA
