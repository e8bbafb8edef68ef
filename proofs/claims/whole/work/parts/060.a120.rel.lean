/-! the relation between the class's world and the reference's -/
abbrev tsX (x : XS) : TS := (x.1, x.2.1, x.2.2.1, x.2.2.2.1)
def sgT (T : Int → Int) (s : Int) : Int → Int := fun j => if 0 ≤ j ∧ j < 440 then T (440 * s + j) else 0
def sgO (op : Nat → Int32) (s : Nat) : Nat → Int32 := fun j => op (1100 * s + j)
/-- a line's E, as far as its town's codes say -/
def cdW (op arg : Nat → Int32) (c : Int) (v : Int → Int → Int32) : Prop := ∀ op' arg' : Nat → Int32, (∀ k : Nat, k < 1100 → op' k = op k ∧ arg' k = arg k) → ∀ d m, 0 ≤ d → d < 4 → 0 ≤ m → m < 120 → clW op' arg' c d m (v d m)
def cdA (op arg : Nat → Int32) (T : Int → Int) (vf : Int → Int → Int → Int32) : Prop := ∀ i, 0 ≤ i → i < T 200 → cdW op arg (T (203 + 3 * i)) (vf i)
theorem cdA_clR {op arg : Nat → Int32} {T : Int → Int} {vf : Int → Int → Int → Int32} (h : cdA op arg T vf) : clR T op arg vf := fun i d m i0 i1 d0 d1 m0 m1 => h i i0 i1 op arg (fun _ _ => ⟨rfl, rfl⟩) d m d0 d1 m0 m1
theorem cdA_seg {op arg op2 arg2 : Nat → Int32} {T T2 : Int → Int} {vf : Int → Int → Int → Int32} (h : cdA op arg T vf) (ho : ∀ k : Nat, k < 1100 → op2 k = op k ∧ arg2 k = arg k) (hT : ∀ j, 200 ≤ j → j < 440 → T2 j = T j) (hn : T 200 ≤ 20) : cdA op2 arg2 T2 vf := by
  intro i i0 i1
  rw [hT 200 (by omega) (by omega)] at i1
  rw [hT _ (by omega) (by omega)]
  intro op' arg' hk
  refine h i i0 i1 op' arg' (fun k hk2 => ?_)
  have a := hk k hk2
  have b := ho k hk2
  exact ⟨a.1.trans b.1, a.2.trans b.2⟩
/-- two rows of numbers that are the same as far as they go -/
def chR (z lim : Int) (f g : Int → Int) : Prop := (0 ≤ z ∧ z ≤ lim) ∧ i32 f ∧ i32 g ∧ ∀ j, 0 ≤ j → j < z → f j = g j
/-- all suns of a row are there, also those that count no more -/
def suV (pl : Pool) (suns : Nat → Option Nat) : Prop := ∀ i, i < 24 → ∀ v, suns i = some v → ∃ vs, (v, ob 7 vs) ∈ pl
theorem suV_mono {pl pl' : Pool} {suns : Nat → Option Nat} (hp : ∀ z ∈ pl, z ∈ pl') (h : suV pl suns) : suV pl' suns := fun i hi v hv => by
  obtain ⟨vs, h1⟩ := h i hi v hv
  exact ⟨vs, hp _ h1⟩
def tcR (pl : Pool) (T : Int → Int) (vf : Int → Int → Int → Int32) (sl al : Int) (kd hg : Int → Int) (wks suns : Nat → Option Nat) (aw sw ww : Nat → Int64) : Prop := (twR T ∧ wkOk T ∧ brR T) ∧ (kdR T kd hg ∧ wkR2 pl T wks ∧ suR pl T suns ∧ suV pl suns) ∧ (wR 960 aw (fun r s => clP T vf 3 (r / 120) (r % 120) s (T 200)) ∧ wR 960 sw (fun r s => clP T vf 4 (r / 120) (r % 120) s (T 200)) ∧ waR T ww) ∧ al = cntC (fun i => T (202 + 3 * i) = 3) (T 200).toNat ∧ sl = cntC (fun i => T (202 + 3 * i) = 4) (T 200).toNat
/-- a town of the class beside one of the reference -/
def twB (pl : Pool) (T : Int → Int) (vf : Int → Int → Int → Int32) (Z : TS) (ps fo td : Int) (pr fr tr : Int → Int) : Prop := ∃ (sl al : Int) (kd hg pc fc tc : Int → Int), (TS.t_kinds Z = zA kd ∧ TS.t_heights Z = zA hg ∧ TS.t_awningLines Z = zi al ∧ TS.t_shutLines Z = zi sl ∧ TS.t_waterLines Z = zi (T 424) ∧ TS.t_sunLines Z = zi (T 261)) ∧ (TS.t_places_size Z = zi ps ∧ TS.t_places_items Z = zA pc ∧ TS.t_procession_size Z = zi fo ∧ TS.t_procession_items Z = zA fc ∧ TS.t_told_size Z = zi td ∧ TS.t_told_items Z = zA tc) ∧ tcR pl T vf sl al kd hg (TS.t_walkers Z) (TS.t_suns Z) (TS.t_awnings_words Z) (TS.t_shuts_words Z) (TS.t_water_words Z) ∧ (chR ps 8 pc pr ∧ chR fo 30 fc fr ∧ chR td 60 tc tr) ∧ spO T pr ps ∧ (∀ j, 0 ≤ j → j < fo → 0 ≤ fr j ∧ fr j < 100) ∧ (∀ j, 0 ≤ j → j < td → 0 ≤ tr j ∧ tr j ≤ 4)
theorem twB_mono {pl pl' : Pool} {T : Int → Int} {vf : Int → Int → Int → Int32} {Z : TS} {ps fo td : Int} {pr fr tr : Int → Int} (hp : ∀ z ∈ pl, z ∈ pl') (h : twB pl T vf Z ps fo td pr fr tr) : twB pl' T vf Z ps fo td pr fr tr := by
  obtain ⟨sl, al, kd, hg, pc, fc, tc, e1, e2, ⟨t1, ⟨t2, t3, t4⟩, t5⟩, h4⟩ := h
  exact ⟨sl, al, kd, hg, pc, fc, tc, e1, e2, ⟨t1, ⟨t2, wkR2_mono hp t3, suR_mono hp t4.1, suV_mono hp t4.2⟩, t5⟩, h4⟩
def RC (T : Int → Int) (vf : Int → Int → Int → Int32) (ps fo td : Int) (pr fr tr : Int → Int) (tz : Int) (tp : Int → Int) (pl : Pool) (x : XS) : Prop := ∃ ex nt ln : Int → Int, twB pl T vf (tsX x) ps fo td pr fr tr ∧ (XS.t_sky_next x = zA nt ∧ XS.t_sky_lines x = zA ln ∧ skR T vf (XS.t_sky_roofs_words x) (XS.t_sky_ground_words x) nt ln (XS.t_sky_casts_words x) (XS.t_sky_shades_words x)) ∧ (XS.t_group_crowding x = zA ex ∧ ∀ k, 0 ≤ k → k < 12000 → 0 ≤ ex k ∧ ex k ≤ 900) ∧ XS.t_walk_extra_b x = false ∧ XS.t_reader_tape_size x = zi tz ∧ XS.t_reader_tape_items x = zA tp ∧ suV pl (XS.t_spare_suns x)
def RR (T : Int → Int) (vf : Int → Int → Int → Int32) (ps fo td : Int) (pr fr tr : Int → Int) (tz : Int) (tp : Int → Int) (y : YS) : Prop := (YS.t_towns y = zA T ∧ cdA (YS.t_op y) (YS.t_arg y) T vf) ∧ (YS.t_spotsMany y = zi ps ∧ YS.t_spotAt y = zA pr ∧ YS.t_followed y = zi fo ∧ YS.t_followOf y = zA fr ∧ YS.t_toldMany y = zi td ∧ YS.t_toldOf y = zA tr) ∧ (YS.t_taped y = zi tz ∧ YS.t_tape y = zA tp ∧ (0 ≤ tz ∧ tz ≤ 1000) ∧ i32 tp ∧ tokB tp tz) ∧ YS.t_words y = wd_30
def RD (T : Int → Int) (vf : Int → Int → Int → Int32) (y : YS) : Prop := ∃ (sd : Int) (sy sn shA c : Int → Int), (YS.t_shadeDay y = zi sd ∧ YS.t_sunny y = zA sy ∧ YS.t_sun y = zA sn ∧ YS.t_isShut y = zA shA ∧ YS.t_cost y = zA c) ∧ dayI T vf sd sy sn shA ∧ i32 c
/-- one mark -/
def mkTB (T mo : Int → Int) (op arg : Nat → Int32) (pl : Pool) (k : Nat) (Z : TS) : Prop := ∃ vf, twB pl (sgT T (2 + k)) vf Z (mo (101 * k)) (mo (101 * k + 1)) (mo (101 * k + 2)) (fun j => mo (101 * k + 3 + j)) (fun j => mo (101 * k + 11 + j)) (fun j => mo (101 * k + 41 + j)) ∧ cdA (sgO op (2 + k)) (sgO arg (2 + k)) (sgT T (2 + k)) vf
def RM (T : Int → Int) (pl : Pool) (x : XS) (M : MK) (y : YS) : Prop := (∀ k, k < 4 → XS.t_marks x k = (M k).map (fun p => p.1 0)) ∧ ∃ im mo : Int → Int, YS.t_isMarked y = zA im ∧ YS.t_markOf y = zA mo ∧ i32 im ∧ i32 mo ∧ ∀ k : Nat, k < 4 → (M k = none → im k = 0) ∧ ∀ p, M k = some p → im k ≠ 0 ∧ mkTB T mo (YS.t_op y) (YS.t_arg y) pl k p.2
def Inv (A : Nat → Nat) (x : XS) (y : YS) (M : MK) (pl : Pool) : Prop := ∃ (T : Int → Int) (vf : Int → Int → Int → Int32) (ps fo td : Int) (pr fr tr : Int → Int) (tz : Int) (tp : Int → Int), RC T vf ps fo td pr fr tr tz tp pl x ∧ RR T vf ps fo td pr fr tr tz tp y ∧ RD T vf y ∧ RM T pl x M y
theorem cntC_0 {P : Int → Prop} : ∀ n : Nat, cntC P n = 0 → ∀ i, 0 ≤ i → i < (n : Int) → ¬ P i
  | 0, _, i, a, b => by omega
  | n + 1, h, i, a, b => by
    have r := cntC_rng (P := P) n
    rw [cntC] at h
    by_cases q : P n
    · rw [if_pos q] at h; omega
    · rw [if_neg q] at h
      by_cases e : i = n
      · rw [e]; exact q
      · exact cntC_0 n (by omega) i a (by omega)
/-- what a call may take out of it -/
theorem RC_open {T : Int → Int} {vf : Int → Int → Int → Int32} {ps fo td : Int} {pr fr tr : Int → Int} {tz : Int} {tp : Int → Int} {pl : Pool} {x : XS} (h : RC T vf ps fo td pr fr tr tz tp pl x) : ∃ (sl al : Int) (kd hg ex nt ln pc fc tc : Int → Int), CS pl T vf sl kd hg (XS.t_town_walkers x) (XS.t_sky_shades_words x) ex nt (XS.t_town_water_words x) (XS.t_town_shuts_words x) (XS.t_sky_ground_words x) ∧ (brR T ∧ suR pl T (XS.t_town_suns x) ∧ wR 960 (XS.t_town_awnings_words x) (fun r s => clP T vf 3 (r / 120) (r % 120) s (T 200)) ∧ (∀ d m, 0 ≤ d → d < 4 → 0 ≤ m → m < 120 → ln (120 * d + m) = lnT T d m) ∧ al = cntC (fun i => T (202 + 3 * i) = 3) (T 200).toNat ∧ sl = cntC (fun i => T (202 + 3 * i) = 4) (T 200).toNat) ∧ (chR ps 8 pc pr ∧ chR fo 30 fc fr ∧ chR td 60 tc tr) ∧ spO T pr ps ∧ ((∀ j, 0 ≤ j → j < fo → 0 ≤ fr j ∧ fr j < 100) ∧ (∀ j, 0 ≤ j → j < td → 0 ≤ tr j ∧ tr j ≤ 4)) ∧ (XS.t_town_kinds x = zA kd ∧ XS.t_town_heights x = zA hg ∧ XS.t_town_awningLines x = zi al ∧ XS.t_town_shutLines x = zi sl ∧ XS.t_town_waterLines x = zi (T 424) ∧ XS.t_town_sunLines x = zi (T 261)) ∧ (XS.t_town_places_size x = zi ps ∧ XS.t_town_places_items x = zA pc ∧ XS.t_town_procession_size x = zi fo ∧ XS.t_town_procession_items x = zA fc ∧ XS.t_town_told_size x = zi td ∧ XS.t_town_told_items x = zA tc) ∧ XS.t_sky_next x = zA nt ∧ XS.t_sky_lines x = zA ln ∧ XS.t_group_crowding x = zA ex ∧ XS.t_walk_extra_b x = false ∧ XS.t_reader_tape_size x = zi tz ∧ XS.t_reader_tape_items x = zA tp := by
  obtain ⟨ex, nt, ln, ⟨sl, al, kd, hg, pc, fc, tc, e1, e2, ⟨⟨t1, t2, t3⟩, ⟨t4, t5, t6⟩, ⟨t7, t8, t9⟩, t10, t11⟩, h4, h5, h6, h7⟩, ⟨k1, k2, k3⟩, ⟨x1, x2⟩, x3, x4, x5, x6⟩ := h
  have tn := t1.2.2.2.2.1
  have slr := cntC_rng (P := fun i => T (202 + 3 * i) = 4) (T 200).toNat
  refine ⟨sl, al, kd, hg, ex, nt, ln, pc, fc, tc, ⟨⟨t1, t2, t4, t5⟩, k3.2.2.2.2.2, x2, ⟨k3.2.2.1, k3.2.1⟩, t9, by omega, t8, fun z i i0 i1 => ?_, gR_of k3.1⟩, ⟨t3, t6.1, t7, k3.2.2.2.2.1, t10, t11⟩, h4, h5, ⟨h6, h7⟩, e1, e2, k1, k2, x1, x3, x4, x5⟩
  exact cntC_0 (P := fun i => T (202 + 3 * i) = 4) (T 200).toNat (by omega) i i0 (by omega)
