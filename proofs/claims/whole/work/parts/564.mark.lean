/-! mark() of the class: towns kept aside -/
def w17 (g : GG) (A : Nat → Nat) (z : TS) : va_W := [(A 0, ob 8 [.ref (A 1), .ref (A 2), .ref (A 3), .ref (A 5), .ref (A 7), .ref (A 9), .ref (A 10), .ref (A 11), .ref (A 13), .ref (A 15), .int z.t_awningLines, .int z.t_shutLines, .int z.t_waterLines, .int z.t_sunLines]), (A 1, aI g 100 z.t_kinds), (A 2, aI g 100 z.t_heights), (A 3, ob 5 [.ref (A 4)]), (A 4, aJ g 960 z.t_awnings_words), (A 5, ob 5 [.ref (A 6)]), (A 6, aJ g 960 z.t_shuts_words), (A 7, ob 5 [.ref (A 8)]), (A 8, aJ g 2 z.t_water_words), (A 9, aS g 24 z.t_suns), (A 10, aW g 6 z.t_walkers), (A 11, ob 0 [.ref (A 12), .int z.t_places_size]), (A 12, aI g 8 z.t_places_items), (A 13, ob 0 [.ref (A 14), .int z.t_procession_size]), (A 14, aI g 30 z.t_procession_items), (A 15, ob 0 [.ref (A 16), .int z.t_told_size]), (A 16, aI g 60 z.t_told_items)]
def cs (q : Nat) (u : Nat → Nat) : Nat → Nat := fun k => cond (Nat.beq k 0) q (u (k - 1))
def mk1 (g : GG) (o : Option ((Nat → Nat) × TS)) : va_W := match o with
  | none => []
  | some p => w17 g p.1 p.2
def mkW (g : GG) (M : MK) : va_W := mk1 g (M 0) ++ (mk1 g (M 1) ++ (mk1 g (M 2) ++ mk1 g (M 3)))
def mkO (g : GG) (M : MK) (i : Nat) : va_W := match i with
  | 0 => mk1 g (M 1) ++ (mk1 g (M 2) ++ mk1 g (M 3))
  | 1 => mk1 g (M 0) ++ (mk1 g (M 2) ++ mk1 g (M 3))
  | 2 => mk1 g (M 0) ++ (mk1 g (M 1) ++ mk1 g (M 3))
  | _ => mk1 g (M 0) ++ (mk1 g (M 1) ++ mk1 g (M 2))
theorem sw3 {α : Type} (a b c : List α) : (a ++ (b ++ c)).Perm (b ++ (a ++ c)) := by
  rw [← List.append_assoc, ← List.append_assoc]
  exact List.perm_append_comm.append_right c
theorem mk_base (g : GG) (M : MK) {k : Nat} (hk : k < 4) : (mkW g M).Perm (mk1 g (M k) ++ mkO g M k) := by
  rcases (show k = 0 ∨ k = 1 ∨ k = 2 ∨ k = 3 by omega) with rfl | rfl | rfl | rfl
  · exact List.Perm.refl _
  · exact sw3 _ _ _
  · exact ((sw3 _ _ _).append_left _).trans (sw3 _ _ _)
  · show (mk1 g (M 0) ++ (mk1 g (M 1) ++ (mk1 g (M 2) ++ mk1 g (M 3)))).Perm (mk1 g (M 3) ++ (mk1 g (M 0) ++ (mk1 g (M 1) ++ mk1 g (M 2))))
    rw [← List.append_assoc, ← List.append_assoc, ← List.append_assoc (mk1 g (M 0))]
    exact List.perm_append_comm
theorem mk_keep (g : GG) (M : MK) {k : Nat} (hk : k < 4) (o : Option ((Nat → Nat) × TS)) : mkO g (u1 M k o) k = mkO g M k := by
  rcases (show k = 0 ∨ k = 1 ∨ k = 2 ∨ k = 3 by omega) with rfl | rfl | rfl | rfl <;> rfl
theorem u1_at {α : Type} (f : Nat → α) (k : Nat) (v : α) : u1 f k v k = v := by
  show cond (Nat.beq k k) v (f k) = v
  rw [Nat.beq_refl]
  rfl
theorem mk_out {g : GG} {M : MK} {w : va_W} {pl : Pool} {k : Nat} (hk : k < 4) {p : (Nat → Nat) × TS} (h : M k = some p) : (w ++ (mkW g M ++ pl)).Perm ((w ++ w17 g p.1 p.2) ++ (mkO g M k ++ pl)) := by
  have := mk_base g M hk
  rw [h] at this
  rw [List.append_assoc]
  refine List.Perm.append_left w ?_
  rw [← List.append_assoc]
  exact this.append_right pl
theorem mk_in {g : GG} {M : MK} {w : va_W} {pl : Pool} {k : Nat} (hk : k < 4) (B : Nat → Nat) (z : TS) : ((w ++ w17 g B z) ++ (mkO g M k ++ pl)).Perm ((w ++ mkW g (u1 M k (some (B, z)))) ++ pl) := by
  have := mk_base g (u1 M k (some (B, z))) hk
  rw [u1_at, mk_keep g M hk] at this
  rw [List.append_assoc, List.append_assoc]
  refine List.Perm.append_left w ?_
  rw [← List.append_assoc]
  exact (this.append_right pl).symm
theorem mk_new {g : GG} {M : MK} {w : va_W} {pl : Pool} {k : Nat} (hk : k < 4) (h : M k = none) (B : Nat → Nat) (z : TS) : ((w ++ w17 g B z) ++ (mkW g M ++ pl)).Perm ((w ++ mkW g (u1 M k (some (B, z)))) ++ pl) := by
  have b := mk_base g M hk
  rw [h] at b
  exact ((b.append_right pl).append_left (w ++ w17 g B z)).trans (mk_in hk B z)
theorem mk_id {g : GG} {M : MK} {w : va_W} {pl : Pool} {k : Nat} (hk : k < 4) {p : (Nat → Nat) × TS} (h : M k = some p) : ((w ++ w17 g p.1 p.2) ++ (mkO g M k ++ pl)).Perm ((w ++ mkW g M) ++ pl) := by
  have := (mk_out (w := w) (pl := pl) (g := g) hk h).symm
  rw [List.append_assoc w (mkW g M) pl]
  exact this
theorem in_pool {a b : Pool} : ∀ z ∈ b, z ∈ a ++ b := fun z h => List.mem_append_right a h
set_option maxRecDepth 20000 in
theorem k_copyIn {l : Launch} {g : GG} {pl : Pool} (A B : Nat → Nat) {x : XS} {z : TS} {post : XS → Prop} (hw : ∀ pl' : Pool, (∀ z ∈ pl, z ∈ pl') → wp_X8_copy pl' (TS.t_awningLines z) (TS.t_shutLines z) (TS.t_waterLines z) (TS.t_sunLines z) (TS.t_kinds z) (TS.t_heights z) (TS.t_awnings_words z) (TS.t_shuts_words z) (TS.t_water_words z) (TS.t_suns z) (TS.t_walkers z) (TS.t_places_size z) (TS.t_places_items z) (TS.t_procession_size z) (TS.t_procession_items z) (TS.t_told_size z) (TS.t_told_items z) (XS.t_town_awningLines x) (XS.t_town_shutLines x) (XS.t_town_waterLines x) (XS.t_town_sunLines x) (XS.t_town_kinds x) (XS.t_town_heights x) (XS.t_town_awnings_words x) (XS.t_town_shuts_words x) (XS.t_town_water_words x) (XS.t_town_suns x) (XS.t_town_walkers x) (XS.t_town_places_size x) (XS.t_town_places_items x) (XS.t_town_procession_size x) (XS.t_town_procession_items x) (XS.t_town_told_size x) (XS.t_town_told_items x) (fun w0 w1 w2 w3 w4 w5 w6 w7 w8 w9 w10 w11 w12 w13 w14 w15 w16 => post (u1 (u1 (u1 (u1 (u1 (u1 (u1 x.1 0 w0) 1 w1) 2 w2) 3 w3) 4 w11) 5 w13) 6 w15, u1 (u1 (u1 (u1 (u1 x.2.1 0 w4) 1 w5) 2 w12) 3 w14) 4 w16, u1 (u1 (u1 x.2.2.1 0 w6) 1 w7) 2 w8, u1 (u1 x.2.2.2.1 0 w9) 1 w10, x.2.2.2.2.1, x.2.2.2.2.2.1, x.2.2.2.2.2.2))) : MV l yX8_copy cX8_copy 3 (none : Option Jvm.ClassFile.FieldType) (rmL 2) g Fz0 [.ref (A 1), .ref (B 0)] (w11 g A x ++ w17 g B z) pl (fun (u : Int32 × Int32 × Int32 × Int32 × (Nat → Int32) × (Nat → Int32) × (Nat → Int64) × (Nat → Int64) × (Nat → Int64) × (Nat → Option Nat) × (Nat → Option Nat) × Int32 × (Nat → Int32) × Int32 × (Nat → Int32) × Int32 × (Nat → Int32)) => post (u1 (u1 (u1 (u1 (u1 (u1 (u1 x.1 0 u.1) 1 u.2.1) 2 u.2.2.1) 3 u.2.2.2.1) 4 u.2.2.2.2.2.2.2.2.2.2.2.1) 5 u.2.2.2.2.2.2.2.2.2.2.2.2.2.1) 6 u.2.2.2.2.2.2.2.2.2.2.2.2.2.2.2.1, u1 (u1 (u1 (u1 (u1 x.2.1 0 u.2.2.2.2.1) 1 u.2.2.2.2.2.1) 2 u.2.2.2.2.2.2.2.2.2.2.2.2.1) 3 u.2.2.2.2.2.2.2.2.2.2.2.2.2.2.1) 4 u.2.2.2.2.2.2.2.2.2.2.2.2.2.2.2.2, u1 (u1 (u1 x.2.2.1 0 u.2.2.2.2.2.2.1) 1 u.2.2.2.2.2.2.2.1) 2 u.2.2.2.2.2.2.2.2.1, u1 (u1 x.2.2.2.1 0 u.2.2.2.2.2.2.2.2.2.1) 1 u.2.2.2.2.2.2.2.2.2.2.1, x.2.2.2.2.1, x.2.2.2.2.2.1, x.2.2.2.2.2.2)) (fun u => w11 g A (u1 (u1 (u1 (u1 (u1 (u1 (u1 x.1 0 u.1) 1 u.2.1) 2 u.2.2.1) 3 u.2.2.2.1) 4 u.2.2.2.2.2.2.2.2.2.2.2.1) 5 u.2.2.2.2.2.2.2.2.2.2.2.2.2.1) 6 u.2.2.2.2.2.2.2.2.2.2.2.2.2.2.2.1, u1 (u1 (u1 (u1 (u1 x.2.1 0 u.2.2.2.2.1) 1 u.2.2.2.2.2.1) 2 u.2.2.2.2.2.2.2.2.2.2.2.2.1) 3 u.2.2.2.2.2.2.2.2.2.2.2.2.2.2.1) 4 u.2.2.2.2.2.2.2.2.2.2.2.2.2.2.2.2, u1 (u1 (u1 x.2.2.1 0 u.2.2.2.2.2.2.1) 1 u.2.2.2.2.2.2.2.1) 2 u.2.2.2.2.2.2.2.2.1, u1 (u1 x.2.2.2.1 0 u.2.2.2.2.2.2.2.2.2.1) 1 u.2.2.2.2.2.2.2.2.2.2.1, x.2.2.2.2.1, x.2.2.2.2.2.1, x.2.2.2.2.2.2) ++ w17 g B z) (fun _ => pl) 0 0 := by
  exact MV_lift (rest := [(A 0, ob 11 [.ref (A 1), .ref (A 18), .ref (A 35), .ref (A 36), .ref (A 51), .ref (A 64), .ref (A 74), .ref (A 79)]), (A 18, ob 8 [.ref (A 19), .ref (A 20), .ref (A 21), .ref (A 23), .ref (A 25), .ref (A 27), .ref (A 28), .ref (A 29), .ref (A 31), .ref (A 33), .int x.t_spare_awningLines, .int x.t_spare_shutLines, .int x.t_spare_waterLines, .int x.t_spare_sunLines]), (A 19, aI g 100 x.t_spare_kinds), (A 20, aI g 100 x.t_spare_heights), (A 21, ob 5 [.ref (A 22)]), (A 22, aJ g 960 x.t_spare_awnings_words), (A 23, ob 5 [.ref (A 24)]), (A 24, aJ g 960 x.t_spare_shuts_words), (A 25, ob 5 [.ref (A 26)]), (A 26, aJ g 2 x.t_spare_water_words), (A 27, aS g 24 x.t_spare_suns), (A 28, aW g 6 x.t_spare_walkers), (A 29, ob 0 [.ref (A 30), .int x.t_spare_places_size]), (A 30, aI g 8 x.t_spare_places_items), (A 31, ob 0 [.ref (A 32), .int x.t_spare_procession_size]), (A 32, aI g 30 x.t_spare_procession_items), (A 33, ob 0 [.ref (A 34), .int x.t_spare_told_size]), (A 34, aI g 60 x.t_spare_told_items), (A 35, aT g 4 x.t_marks), (A 36, ob 4 [.ref (A 37), .ref (A 39), .ref (A 41), .ref (A 43), .ref (A 45), x.t_reader_town, .int x.t_reader_ahead, .int x.t_reader_token, .int x.t_reader_value, .int x.t_reader_place, .int x.t_reader_number, .int x.t_reader_numberPlace, .int x.t_reader_site, .int x.t_reader_fault]), (A 37, ob 0 [.ref (A 38), .int x.t_reader_tape_size]), (A 38, aI g 1000 x.t_reader_tape_items), (A 39, ob 0 [.ref (A 40), .int x.t_reader_tokens_size]), (A 40, aI g 1001 x.t_reader_tokens_items), (A 41, ob 0 [.ref (A 42), .int x.t_reader_values_size]), (A 42, aI g 1001 x.t_reader_values_items), (A 43, ob 0 [.ref (A 44), .int x.t_reader_places_size]), (A 44, aI g 1001 x.t_reader_places_items), (A 45, ob 2 [.ref (A 46), .ref (A 48), .ref (A 50), .int x.t_reader_formula_depth, .int x.t_reader_formula_wantsPart]), (A 46, ob 0 [.ref (A 47), .int x.t_reader_formula_code_size]), (A 47, aI g 1000 x.t_reader_formula_code_items), (A 48, ob 0 [.ref (A 49), .int x.t_reader_formula_pending_size]), (A 49, aI g 1000 x.t_reader_formula_pending_items), (A 50, aI g 64 x.t_reader_formula_values), (A 51, ob 6 [.ref (A 52), .ref (A 53), .ref (A 55), .ref (A 57), .ref (A 59), .ref (A 61), .ref (A 62), .ref (A 63), .ref (A 1)]), (A 52, aI g 480 x.t_sky_lines), (A 53, ob 5 [.ref (A 54)]), (A 54, aJ g 960 x.t_sky_shades_words), (A 55, ob 5 [.ref (A 56)]), (A 56, aJ g 48 x.t_sky_casts_words), (A 57, ob 5 [.ref (A 58)]), (A 58, aJ g 2 x.t_sky_roofs_words), (A 59, ob 5 [.ref (A 60)]), (A 60, aJ g 2 x.t_sky_ground_words), (A 61, aI g 400 x.t_sky_next), (A 62, aI g 100 x.t_sky_queue), (A 63, aI g 100 x.t_sky_steps), (A 64, ob 9 [.ref (A 51), .ref (A 65), .ref (A 67), .ref (A 69), .ref (A 70), xr x.t_walk_extra_b (A 81), .ref (A 71), .ref (A 73), .ref x.t_walk_walker, .int x.t_walk_day, .int x.t_walk_first, .int x.t_walk_from, .int x.t_walk_to, .int x.t_walk_hot, .int x.t_walk_cool, .int x.t_walk_waits, .int x.t_walk_aims, .int x.t_walk_most, .int x.t_walk_cost, .int x.t_walk_arrival, .int x.t_walk_place]), (A 65, ob 5 [.ref (A 66)]), (A 66, aJ g 240 x.t_walk_dark_words), (A 67, ob 5 [.ref (A 68)]), (A 68, aJ g 240 x.t_walk_live_words), (A 69, aI g 12000 x.t_walk_reach), (A 70, aI g 12000 x.t_walk_labels), (A 71, ob 0 [.ref (A 72), .int x.t_walk_way_size]), (A 72, aI g 120 x.t_walk_way_items), (A 73, aI g 120 x.t_walk_path), (A 74, ob 3 [.ref (A 64), .ref (A 75), .ref (A 77), .int x.t_garden_chosen, .int x.t_garden_best, .int x.t_garden_gain]), (A 75, ob 5 [.ref (A 76)]), (A 76, aJ g 48 x.t_garden_shadows_words), (A 77, ob 5 [.ref (A 78)]), (A 78, aJ g 240 x.t_garden_near_words), (A 79, ob 1 [.ref (A 64), .ref (A 80), .ref (A 81), .int x.t_group_members, .int x.t_group_each, .int x.t_group_by, .int x.t_group_rounds, .int x.t_group_costs, .int x.t_group_suns, .int x.t_group_greatest]), (A 80, aI g 960 x.t_group_where), (A 81, aI g 12000 x.t_group_crowding)]) [1, 82, 83, 2, 84, 3, 4, 85, 5, 86, 6, 87, 7, 88, 8, 89, 9, 90, 10, 91, 11, 92, 12, 93, 94, 13, 14, 95, 96, 15, 16, 97, 98, 17] [0, 18, 19, 20, 21, 22, 23, 24, 25, 26, 27, 28, 29, 30, 31, 32, 33, 34, 35, 36, 37, 38, 39, 40, 41, 42, 43, 44, 45, 46, 47, 48, 49, 50, 51, 52, 53, 54, 55, 56, 57, 58, 59, 60, 61, 62, 63, 64, 65, 66, 67, 68, 69, 70, 71, 72, 73, 74, 75, 76, 77, 78, 79, 80, 81] (m := 99) (by decide +kernel) (by rfl) (by rfl) (fun _ => by rfl) (fun _ => by rfl) (by rfl) (fun _ => by rfl) (c_X8_copy (A 1) (B 0) (B 1) (A 2) (B 2) (A 3) (A 4) (B 3) (A 5) (B 4) (A 6) (B 5) (A 7) (B 6) (A 8) (B 7) (A 9) (B 8) (A 10) (B 9) (A 11) (B 10) (A 12) (B 11) (B 12) (A 13) (A 14) (B 13) (B 14) (A 15) (A 16) (B 15) (B 16) (A 17) (hw _ in_pool))
set_option maxRecDepth 20000 in
theorem k_copyOut {l : Launch} {g : GG} {pl : Pool} (A B : Nat → Nat) {x : XS} {z : TS} {post : TS → Prop} (hw : ∀ pl' : Pool, (∀ z ∈ pl, z ∈ pl') → wp_X8_copy pl' (XS.t_town_awningLines x) (XS.t_town_shutLines x) (XS.t_town_waterLines x) (XS.t_town_sunLines x) (XS.t_town_kinds x) (XS.t_town_heights x) (XS.t_town_awnings_words x) (XS.t_town_shuts_words x) (XS.t_town_water_words x) (XS.t_town_suns x) (XS.t_town_walkers x) (XS.t_town_places_size x) (XS.t_town_places_items x) (XS.t_town_procession_size x) (XS.t_town_procession_items x) (XS.t_town_told_size x) (XS.t_town_told_items x) (TS.t_awningLines z) (TS.t_shutLines z) (TS.t_waterLines z) (TS.t_sunLines z) (TS.t_kinds z) (TS.t_heights z) (TS.t_awnings_words z) (TS.t_shuts_words z) (TS.t_water_words z) (TS.t_suns z) (TS.t_walkers z) (TS.t_places_size z) (TS.t_places_items z) (TS.t_procession_size z) (TS.t_procession_items z) (TS.t_told_size z) (TS.t_told_items z) (fun w0 w1 w2 w3 w4 w5 w6 w7 w8 w9 w10 w11 w12 w13 w14 w15 w16 => post (u1 (u1 (u1 (u1 (u1 (u1 (u1 z.1 0 w0) 1 w1) 2 w2) 3 w3) 4 w11) 5 w13) 6 w15, u1 (u1 (u1 (u1 (u1 z.2.1 0 w4) 1 w5) 2 w12) 3 w14) 4 w16, u1 (u1 (u1 z.2.2.1 0 w6) 1 w7) 2 w8, u1 (u1 z.2.2.2 0 w9) 1 w10))) : MV l yX8_copy cX8_copy 3 (none : Option Jvm.ClassFile.FieldType) (rmL 2) g Fz0 [.ref (B 0), .ref (A 1)] (w11 g A x ++ w17 g B z) pl (fun (u : Int32 × Int32 × Int32 × Int32 × (Nat → Int32) × (Nat → Int32) × (Nat → Int64) × (Nat → Int64) × (Nat → Int64) × (Nat → Option Nat) × (Nat → Option Nat) × Int32 × (Nat → Int32) × Int32 × (Nat → Int32) × Int32 × (Nat → Int32)) => post (u1 (u1 (u1 (u1 (u1 (u1 (u1 z.1 0 u.1) 1 u.2.1) 2 u.2.2.1) 3 u.2.2.2.1) 4 u.2.2.2.2.2.2.2.2.2.2.2.1) 5 u.2.2.2.2.2.2.2.2.2.2.2.2.2.1) 6 u.2.2.2.2.2.2.2.2.2.2.2.2.2.2.2.1, u1 (u1 (u1 (u1 (u1 z.2.1 0 u.2.2.2.2.1) 1 u.2.2.2.2.2.1) 2 u.2.2.2.2.2.2.2.2.2.2.2.2.1) 3 u.2.2.2.2.2.2.2.2.2.2.2.2.2.2.1) 4 u.2.2.2.2.2.2.2.2.2.2.2.2.2.2.2.2, u1 (u1 (u1 z.2.2.1 0 u.2.2.2.2.2.2.1) 1 u.2.2.2.2.2.2.2.1) 2 u.2.2.2.2.2.2.2.2.1, u1 (u1 z.2.2.2 0 u.2.2.2.2.2.2.2.2.2.1) 1 u.2.2.2.2.2.2.2.2.2.2.1)) (fun u => w11 g A x ++ w17 g B (u1 (u1 (u1 (u1 (u1 (u1 (u1 z.1 0 u.1) 1 u.2.1) 2 u.2.2.1) 3 u.2.2.2.1) 4 u.2.2.2.2.2.2.2.2.2.2.2.1) 5 u.2.2.2.2.2.2.2.2.2.2.2.2.2.1) 6 u.2.2.2.2.2.2.2.2.2.2.2.2.2.2.2.1, u1 (u1 (u1 (u1 (u1 z.2.1 0 u.2.2.2.2.1) 1 u.2.2.2.2.2.1) 2 u.2.2.2.2.2.2.2.2.2.2.2.2.1) 3 u.2.2.2.2.2.2.2.2.2.2.2.2.2.2.1) 4 u.2.2.2.2.2.2.2.2.2.2.2.2.2.2.2.2, u1 (u1 (u1 z.2.2.1 0 u.2.2.2.2.2.2.1) 1 u.2.2.2.2.2.2.2.1) 2 u.2.2.2.2.2.2.2.2.1, u1 (u1 z.2.2.2 0 u.2.2.2.2.2.2.2.2.2.1) 1 u.2.2.2.2.2.2.2.2.2.2.1)) (fun _ => pl) 0 0 := by
  exact MV_lift (rest := [(A 0, ob 11 [.ref (A 1), .ref (A 18), .ref (A 35), .ref (A 36), .ref (A 51), .ref (A 64), .ref (A 74), .ref (A 79)]), (A 18, ob 8 [.ref (A 19), .ref (A 20), .ref (A 21), .ref (A 23), .ref (A 25), .ref (A 27), .ref (A 28), .ref (A 29), .ref (A 31), .ref (A 33), .int x.t_spare_awningLines, .int x.t_spare_shutLines, .int x.t_spare_waterLines, .int x.t_spare_sunLines]), (A 19, aI g 100 x.t_spare_kinds), (A 20, aI g 100 x.t_spare_heights), (A 21, ob 5 [.ref (A 22)]), (A 22, aJ g 960 x.t_spare_awnings_words), (A 23, ob 5 [.ref (A 24)]), (A 24, aJ g 960 x.t_spare_shuts_words), (A 25, ob 5 [.ref (A 26)]), (A 26, aJ g 2 x.t_spare_water_words), (A 27, aS g 24 x.t_spare_suns), (A 28, aW g 6 x.t_spare_walkers), (A 29, ob 0 [.ref (A 30), .int x.t_spare_places_size]), (A 30, aI g 8 x.t_spare_places_items), (A 31, ob 0 [.ref (A 32), .int x.t_spare_procession_size]), (A 32, aI g 30 x.t_spare_procession_items), (A 33, ob 0 [.ref (A 34), .int x.t_spare_told_size]), (A 34, aI g 60 x.t_spare_told_items), (A 35, aT g 4 x.t_marks), (A 36, ob 4 [.ref (A 37), .ref (A 39), .ref (A 41), .ref (A 43), .ref (A 45), x.t_reader_town, .int x.t_reader_ahead, .int x.t_reader_token, .int x.t_reader_value, .int x.t_reader_place, .int x.t_reader_number, .int x.t_reader_numberPlace, .int x.t_reader_site, .int x.t_reader_fault]), (A 37, ob 0 [.ref (A 38), .int x.t_reader_tape_size]), (A 38, aI g 1000 x.t_reader_tape_items), (A 39, ob 0 [.ref (A 40), .int x.t_reader_tokens_size]), (A 40, aI g 1001 x.t_reader_tokens_items), (A 41, ob 0 [.ref (A 42), .int x.t_reader_values_size]), (A 42, aI g 1001 x.t_reader_values_items), (A 43, ob 0 [.ref (A 44), .int x.t_reader_places_size]), (A 44, aI g 1001 x.t_reader_places_items), (A 45, ob 2 [.ref (A 46), .ref (A 48), .ref (A 50), .int x.t_reader_formula_depth, .int x.t_reader_formula_wantsPart]), (A 46, ob 0 [.ref (A 47), .int x.t_reader_formula_code_size]), (A 47, aI g 1000 x.t_reader_formula_code_items), (A 48, ob 0 [.ref (A 49), .int x.t_reader_formula_pending_size]), (A 49, aI g 1000 x.t_reader_formula_pending_items), (A 50, aI g 64 x.t_reader_formula_values), (A 51, ob 6 [.ref (A 52), .ref (A 53), .ref (A 55), .ref (A 57), .ref (A 59), .ref (A 61), .ref (A 62), .ref (A 63), .ref (A 1)]), (A 52, aI g 480 x.t_sky_lines), (A 53, ob 5 [.ref (A 54)]), (A 54, aJ g 960 x.t_sky_shades_words), (A 55, ob 5 [.ref (A 56)]), (A 56, aJ g 48 x.t_sky_casts_words), (A 57, ob 5 [.ref (A 58)]), (A 58, aJ g 2 x.t_sky_roofs_words), (A 59, ob 5 [.ref (A 60)]), (A 60, aJ g 2 x.t_sky_ground_words), (A 61, aI g 400 x.t_sky_next), (A 62, aI g 100 x.t_sky_queue), (A 63, aI g 100 x.t_sky_steps), (A 64, ob 9 [.ref (A 51), .ref (A 65), .ref (A 67), .ref (A 69), .ref (A 70), xr x.t_walk_extra_b (A 81), .ref (A 71), .ref (A 73), .ref x.t_walk_walker, .int x.t_walk_day, .int x.t_walk_first, .int x.t_walk_from, .int x.t_walk_to, .int x.t_walk_hot, .int x.t_walk_cool, .int x.t_walk_waits, .int x.t_walk_aims, .int x.t_walk_most, .int x.t_walk_cost, .int x.t_walk_arrival, .int x.t_walk_place]), (A 65, ob 5 [.ref (A 66)]), (A 66, aJ g 240 x.t_walk_dark_words), (A 67, ob 5 [.ref (A 68)]), (A 68, aJ g 240 x.t_walk_live_words), (A 69, aI g 12000 x.t_walk_reach), (A 70, aI g 12000 x.t_walk_labels), (A 71, ob 0 [.ref (A 72), .int x.t_walk_way_size]), (A 72, aI g 120 x.t_walk_way_items), (A 73, aI g 120 x.t_walk_path), (A 74, ob 3 [.ref (A 64), .ref (A 75), .ref (A 77), .int x.t_garden_chosen, .int x.t_garden_best, .int x.t_garden_gain]), (A 75, ob 5 [.ref (A 76)]), (A 76, aJ g 48 x.t_garden_shadows_words), (A 77, ob 5 [.ref (A 78)]), (A 78, aJ g 240 x.t_garden_near_words), (A 79, ob 1 [.ref (A 64), .ref (A 80), .ref (A 81), .int x.t_group_members, .int x.t_group_each, .int x.t_group_by, .int x.t_group_rounds, .int x.t_group_costs, .int x.t_group_suns, .int x.t_group_greatest]), (A 80, aI g 960 x.t_group_where), (A 81, aI g 12000 x.t_group_crowding)]) [82, 1, 2, 83, 3, 84, 85, 4, 86, 5, 87, 6, 88, 7, 89, 8, 90, 9, 91, 10, 92, 11, 93, 12, 13, 94, 95, 14, 15, 96, 97, 16, 17, 98] [0, 18, 19, 20, 21, 22, 23, 24, 25, 26, 27, 28, 29, 30, 31, 32, 33, 34, 35, 36, 37, 38, 39, 40, 41, 42, 43, 44, 45, 46, 47, 48, 49, 50, 51, 52, 53, 54, 55, 56, 57, 58, 59, 60, 61, 62, 63, 64, 65, 66, 67, 68, 69, 70, 71, 72, 73, 74, 75, 76, 77, 78, 79, 80, 81] (m := 99) (by decide +kernel) (by rfl) (by rfl) (fun _ => by rfl) (fun _ => by rfl) (by rfl) (fun _ => by rfl) (c_X8_copy (B 0) (A 1) (A 2) (B 1) (A 3) (B 2) (B 3) (A 4) (B 4) (A 5) (B 5) (A 6) (B 6) (A 7) (B 7) (A 8) (B 8) (A 9) (B 9) (A 10) (B 10) (A 11) (B 11) (A 12) (A 13) (B 12) (B 13) (A 14) (A 15) (B 14) (B 15) (A 16) (A 17) (B 16) (hw _ in_pool))
theorem in4 {i : Int32} (h1 : ¬ i < 0) (h2 : i < 4) : vp_in i 4 := by
  rw [vp_in_iff]
  rw [Int32.lt_iff_toInt_lt] at h1 h2
  have e0 : (0 : Int32).toInt = 0 := by decide
  have e4 : (4 : Int32).toInt = 4 := by decide
  omega
theorem in4k {i : Int32} (h : vp_in i 4) : i.toNatClampNeg < 4 := by
  rw [vp_in_iff] at h
  have : i.toNatClampNeg = i.toInt.toNat := rfl
  omega
theorem no4a {i : Int32} (h1 : i < 0) : ¬ vp_in i 4 := by
  rw [vp_in_iff]
  rw [Int32.lt_iff_toInt_lt] at h1
  have e0 : (0 : Int32).toInt = 0 := by decide
  omega
theorem no4b {i : Int32} (h2 : ¬ i < 4) : ¬ vp_in i 4 := by
  rw [vp_in_iff]
  rw [Int32.lt_iff_toInt_lt] at h2
  have e4 : (4 : Int32).toInt = 4 := by decide
  omega
set_option maxRecDepth 20000 in
set_option maxHeartbeats 2000000 in
theorem c_X11_mark {ka : KA} {l : Launch} {g : GG} {pl : Pool} (A : Nat → Nat) {x : XS} {M : MK} (hM : ∀ k, k < 4 → XS.t_marks x k = (M k).map (fun p => p.1 0)) {i b : Int32} {post : Int32 → XS → MK → Prop} (hw : wpMark x M pl i b post) : MI l yX11_mark cX11_mark 4 (some .boolean) (rmC 5 17 2273) g (FzW ka) [.ref (A 0), .int i, .int b] (w11 g A x ++ mkW g M) pl (fun r (u : XS × MK) => b01 r ∧ post r u.1 u.2) (fun u => w11 g A u.1 ++ mkW g u.2) (fun _ => pl) 17 2273 := by
  refine mi_b01 ?_
  refine met_z (own := RX11) rfl rfl (Nat.le_of_ble_eq_true rfl) (fun X hg hl C _ hret => ?_)
  subst hg
  subst hl
  show AW X 4 0 0 (w11 (cxG X) A x ++ mkW (cxG X) M) pl 0 [some (.ref (A 0)), some (.int i), some (.int b), none] []
  have hz0 : narrow .boolean (.int (0 : Int32)) = .int 0 := b01_nar (Or.inl rfl)
  have hz1 : narrow .boolean (.int (1 : Int32)) = .int 1 := b01_nar (Or.inr rfl)
  have e9 : post 0 x M → AW X 4 0 0 (w11 (cxG X) A x ++ mkW (cxG X) M) pl 9 [some (.ref (A 0)), some (.int i), some (.int b), none] [] := fun h => by
    refine a_iconst (pc := 9) (v := 0) C dX11_mark_9 rfl ?_
    exact a_widen (Nat.le_of_ble_eq_true rfl) (Nat.le_of_ble_eq_true rfl) (hret 0 (x, M) _ _ hz0 h dX11_mark_10)
  refine a_iload_n (pc := 0) (i := 1) C dX11_mark_0 rfl rfl ?_
  refine a_if_lt (pc := 1) (tgt := 9) C dX11_mark_1 (by decide) (fun c1 => e9 (hw.1 (no4a c1))) (fun c1 => ?_)
  refine a_iload_n (pc := 4) (i := 1) C dX11_mark_4 rfl rfl ?_
  refine a_iconst (pc := 5) (v := 4) C dX11_mark_5 rfl ?_
  refine a_icmp_lt (pc := 6) (tgt := 11) C dX11_mark_6 (by decide) (fun c2 => ?_) (fun c2 => e9 (hw.1 (no4b c2)))
  have hin := in4 c1 c2
  have hk4 := in4k hin
  replace hw := hw.2 hin
  have hMk := hM _ hk4
  refine a_perm (ws' := w11 (cxG X) A x) (pl' := mkW (cxG X) M ++ pl) (by rw [List.append_assoc]) ?_
  refine a_aload_n (pc := 11) (i := 0) C dX11_mark_11 rfl rfl ?_
  refine a_get (pc := 12) C fl_X11_19 dX11_mark_12 0 rfl rfl ?_
  refine a_iload_n (pc := 15) (i := 1) C dX11_mark_15 rfl rfl ?_
  refine a_aldT (pc := 16) C dX11_mark_16 35 rfl hin ?_
  show AW X 4 0 0 (w11 (cxG X) A x) (mkW (cxG X) M ++ pl) 17 [some (.ref (A 0)), some (.int i), some (.int b), none] [va_rf (XS.t_marks x i.toNatClampNeg)]
  rw [hMk]
  cases hm : M i.toNatClampNeg with
  | none =>
    show AW X 4 0 0 (w11 (cxG X) A x) (mkW (cxG X) M ++ pl) 17 [some (.ref (A 0)), some (.int i), some (.int b), none] [.null]
    refine a_astore_nN (pc := 17) (i := 3) C dX11_mark_17 rfl (Nat.le_of_ble_eq_true rfl) rfl ?_
    show AW X 4 0 0 (w11 (cxG X) A x) (mkW (cxG X) M ++ pl) 18 [some (.ref (A 0)), some (.int i), some (.int b), some .null] []
    refine a_iload_n (pc := 18) (i := 2) C dX11_mark_18 rfl rfl ?_
    refine a_if_eq (pc := 19) (tgt := 49) C dX11_mark_19 (by decide) (fun c => ?_) (fun c => ?_)
    · replace hw := (hw.2 c).1 hm
      refine a_aload_nN (pc := 49) (i := 3) C dX11_mark_49 rfl rfl ?_
      refine a_ifnonnullN (pc := 50) C dX11_mark_50 ?_
      refine a_new (pc := 53) C nk_X11_7 dX11_mark_53 (Nat.le_of_ble_eq_true rfl) (Nat.le_of_ble_eq_true rfl) (fun q => w11 (cxG X) A x ++ [(q, ob 8 [.null, .null, .null, .null, .null, .null, .null, .null, .null, .null, .int 0, .int 0, .int 0, .int 0])]) (fun _ => rfl) (fun q => ?_)
      refine a_dup (pc := 56) C dX11_mark_56 rfl ?_
      refine a_mkI (R := w11 (cxG X) A x) ?_
      refine a_xINv (pc := 57) (As := []) (st := [.ref q]) C (c_X8_init (ka := ka) q) dX11_mark_57 mth_X8_init (fun A U h => nl_X11_9 (ka := ka) A U h.1.1) (fun _ _ h => h) (FzW_ok ka) (rmCC (Nat.le_of_ble_eq_true rfl) (Nat.le_of_ble_eq_true rfl) (Nat.le_of_ble_eq_true rfl) (Nat.le_of_ble_eq_true rfl)) (Nat.le_of_ble_eq_true rfl) rfl rfl (m := 17) (fun _ => rfl) (fun u _ => ?_)
      show AW X 4 17 2273 (w17 (cxG X) (cs q u) z0) (w11 (cxG X) A x ++ (mkW (cxG X) M ++ pl)) 60 [some (.ref (A 0)), some (.int i), some (.int b), some .null] [.ref (cs q u 0)]
      replace hw := hw (cs q u)
      generalize cs q u = B at hw ⊢
      refine a_perm (ws' := w11 (cxG X) A x ++ w17 (cxG X) B z0) (pl' := mkW (cxG X) M ++ pl) (by rw [List.append_assoc]; exact sw3 _ _ _) ?_
      refine a_astore_n (pc := 60) (i := 3) C dX11_mark_60 rfl (Nat.le_of_ble_eq_true rfl) rfl ?_
      show AW X 4 17 2273 (w11 (cxG X) A x ++ w17 (cxG X) B z0) (mkW (cxG X) M ++ pl) 61 [some (.ref (A 0)), some (.int i), some (.int b), some (.ref (B 0))] []
      refine a_aload_n (pc := 61) (i := 0) C dX11_mark_61 rfl rfl ?_
      refine a_get (pc := 62) C fl_X11_19 dX11_mark_62 0 rfl rfl ?_
      refine a_iload_n (pc := 65) (i := 1) C dX11_mark_65 rfl rfl ?_
      refine a_aload_n (pc := 66) (i := 3) C dX11_mark_66 rfl rfl ?_
      refine a_astT (pc := 67) (vs := [.ref (B 1), .ref (B 2), .ref (B 3), .ref (B 5), .ref (B 7), .ref (B 9), .ref (B 10), .ref (B 11), .ref (B 13), .ref (B 15), .int (TS.t_awningLines z0), .int (TS.t_shutLines z0), .int (TS.t_waterLines z0), .int (TS.t_sunLines z0)]) C (fun h => w11 (cxG X) A (x.1, x.2.1, x.2.2.1, u1 x.2.2.2.1 4 h, x.2.2.2.2.1, x.2.2.2.2.2.1, x.2.2.2.2.2.2) ++ w17 (cxG X) B z0) dX11_mark_67 35 rfl (List.mem_append_left _ (List.mem_append_right _ List.mem_cons_self)) hin (fun _ => rfl) (fun h eh => ?_)
      subst eh
      generalize ((x.1, x.2.1, x.2.2.1, u1 x.2.2.2.1 4 (va_up (XS.t_marks x) i.toNatClampNeg (some (B 0))), x.2.2.2.2.1, x.2.2.2.2.2.1, x.2.2.2.2.2.2) : XS) = x1 at hw ⊢
      show AW X 4 17 2273 (w11 (cxG X) A x1 ++ w17 (cxG X) B z0) (mkW (cxG X) M ++ pl) 68 [some (.ref (A 0)), some (.int i), some (.int b), some (.ref (B 0))] []
      refine a_aload_n (pc := 68) (i := 3) C dX11_mark_68 rfl rfl ?_
      refine a_aload_n (pc := 69) (i := 0) C dX11_mark_69 rfl rfl ?_
      refine a_get (pc := 70) C fl_X11_10 dX11_mark_70 0 rfl rfl ?_
      refine a_xVv (pc := 73) (As := [.ref (A 1)]) (st := []) C (k_copyOut (post := fun z => post 1 x1 (u1 M i.toNatClampNeg (some (B, z)))) A B (fun pl' hp => hw pl' (fun z hz => hp z (List.mem_append_right _ hz)))) dX11_mark_73 mth_X8_copy tml_X11_106 (fun _ _ _ => trivial) Fz0_ok (rmLC (Nat.le_of_ble_eq_true rfl) (Nat.le_of_ble_eq_true rfl) (Nat.le_of_ble_eq_true rfl) (Nat.le_of_ble_eq_true rfl)) (Nat.le_of_ble_eq_true rfl) rfl rfl (ci := 8) rfl ⟨82, _, rfl⟩ (m := 99) (fun _ => rfl) (fun u hw => ?_)
      refine a_iconst (pc := 76) (v := 1) C dX11_mark_76 rfl ?_
      refine a_perm (mk_new hk4 hm _ _) ?_
      exact hret 1 (x1, _) _ _ hz1 hw dX11_mark_77
    · replace hw := (hw.1 c).1 hm
      refine a_aload_nN (pc := 22) (i := 3) C dX11_mark_22 rfl rfl ?_
      refine a_ifnonnullN (pc := 23) C dX11_mark_23 ?_
      refine a_iconst (pc := 26) (v := 0) C dX11_mark_26 rfl ?_
      refine a_perm (ws' := w11 (cxG X) A x ++ mkW (cxG X) M) (pl' := pl) (by rw [List.append_assoc]) ?_
      exact a_widen (Nat.le_of_ble_eq_true rfl) (Nat.le_of_ble_eq_true rfl) (hret 0 (x, M) _ _ hz0 hw dX11_mark_27)
  | some p =>
    obtain ⟨B, z⟩ := p
    show AW X 4 0 0 (w11 (cxG X) A x) (mkW (cxG X) M ++ pl) 17 [some (.ref (A 0)), some (.int i), some (.int b), none] [.ref (B 0)]
    refine a_perm (mk_out hk4 hm) ?_
    refine a_astore_n (pc := 17) (i := 3) C dX11_mark_17 rfl (Nat.le_of_ble_eq_true rfl) rfl ?_
    show AW X 4 0 0 (w11 (cxG X) A x ++ w17 (cxG X) B z) (mkO (cxG X) M i.toNatClampNeg ++ pl) 18 [some (.ref (A 0)), some (.int i), some (.int b), some (.ref (B 0))] []
    refine a_iload_n (pc := 18) (i := 2) C dX11_mark_18 rfl rfl ?_
    refine a_if_eq (pc := 19) (tgt := 49) C dX11_mark_19 (by decide) (fun c => ?_) (fun c => ?_)
    · replace hw := (hw.2 c).2 _ hm
      refine a_aload_n (pc := 49) (i := 3) C dX11_mark_49 rfl rfl ?_
      refine a_ifnonnull (pc := 50) (tgt := 68) C dX11_mark_50 (by decide) ?_
      refine a_aload_n (pc := 68) (i := 3) C dX11_mark_68 rfl rfl ?_
      refine a_aload_n (pc := 69) (i := 0) C dX11_mark_69 rfl rfl ?_
      refine a_get (pc := 70) C fl_X11_10 dX11_mark_70 0 rfl rfl ?_
      refine a_xVv (pc := 73) (As := [.ref (A 1)]) (st := []) C (k_copyOut (post := fun z => post 1 x (u1 M i.toNatClampNeg (some (B, z)))) A B (fun pl' hp => hw pl' (fun z hz => hp z (List.mem_append_right _ hz)))) dX11_mark_73 mth_X8_copy tml_X11_106 (fun _ _ _ => trivial) Fz0_ok (rmLC (Nat.le_of_ble_eq_true rfl) (Nat.le_of_ble_eq_true rfl) (Nat.le_of_ble_eq_true rfl) (Nat.le_of_ble_eq_true rfl)) (Nat.le_of_ble_eq_true rfl) rfl rfl (ci := 8) rfl ⟨82, _, rfl⟩ (m := 99) (fun _ => rfl) (fun u hw => ?_)
      refine a_iconst (pc := 76) (v := 1) C dX11_mark_76 rfl ?_
      refine a_perm (mk_in hk4 _ _) ?_
      exact a_widen (Nat.le_of_ble_eq_true rfl) (Nat.le_of_ble_eq_true rfl) (hret 1 (x, _) _ _ hz1 hw dX11_mark_77)
    · replace hw := (hw.1 c).2 _ hm
      refine a_aload_n (pc := 22) (i := 3) C dX11_mark_22 rfl rfl ?_
      refine a_ifnonnull (pc := 23) (tgt := 28) C dX11_mark_23 (by decide) ?_
      refine a_aload_n (pc := 28) (i := 0) C dX11_mark_28 rfl rfl ?_
      refine a_get (pc := 29) C fl_X11_10 dX11_mark_29 0 rfl rfl ?_
      refine a_aload_n (pc := 32) (i := 3) C dX11_mark_32 rfl rfl ?_
      refine a_xVv (pc := 33) (As := [.ref (B 0)]) (st := []) C (k_copyIn (post := fun x1 => wpM1 x1 M pl post) A B (fun pl' hp => hw pl' (fun z hz => hp z (List.mem_append_right _ hz)))) dX11_mark_33 mth_X8_copy tml_X11_106 (fun _ _ _ => trivial) Fz0_ok (rmLC (Nat.le_of_ble_eq_true rfl) (Nat.le_of_ble_eq_true rfl) (Nat.le_of_ble_eq_true rfl) (Nat.le_of_ble_eq_true rfl)) (Nat.le_of_ble_eq_true rfl) rfl rfl (ci := 8) rfl ⟨1, _, rfl⟩ (m := 99) (fun _ => rfl) (fun u hw => ?_)
      generalize ((u1 (u1 (u1 (u1 (u1 (u1 (u1 x.1 0 u.1) 1 u.2.1) 2 u.2.2.1) 3 u.2.2.2.1) 4 u.2.2.2.2.2.2.2.2.2.2.2.1) 5 u.2.2.2.2.2.2.2.2.2.2.2.2.2.1) 6 u.2.2.2.2.2.2.2.2.2.2.2.2.2.2.2.1, u1 (u1 (u1 (u1 (u1 x.2.1 0 u.2.2.2.2.1) 1 u.2.2.2.2.2.1) 2 u.2.2.2.2.2.2.2.2.2.2.2.2.1) 3 u.2.2.2.2.2.2.2.2.2.2.2.2.2.2.1) 4 u.2.2.2.2.2.2.2.2.2.2.2.2.2.2.2.2, u1 (u1 (u1 x.2.2.1 0 u.2.2.2.2.2.2.1) 1 u.2.2.2.2.2.2.2.1) 2 u.2.2.2.2.2.2.2.2.1, u1 (u1 x.2.2.2.1 0 u.2.2.2.2.2.2.2.2.2.1) 1 u.2.2.2.2.2.2.2.2.2.2.1, x.2.2.2.2.1, x.2.2.2.2.2.1, x.2.2.2.2.2.2) : XS) = x1 at hw ⊢
      refine a_perm (mk_id (w := w11 (cxG X) A x1) hk4 hm) ?_
      refine a_perm (ws' := w11s (cxG X) A x1 (.ref (A 1))) (pl' := mkW (cxG X) M ++ pl) (by rw [List.append_assoc]; exact List.Perm.refl _) ?_
      show AW X 4 0 0 (w11s (cxG X) A x1 (.ref (A 1))) (mkW (cxG X) M ++ pl) 36 [some (.ref (A 0)), some (.int i), some (.int b), some (.ref (B 0))] []
      refine a_aload_n (pc := 36) (i := 0) C dX11_mark_36 rfl rfl ?_
      refine a_get (pc := 37) C fl_X11_35 dX11_mark_37 0 rfl rfl ?_
      refine a_aload_n (pc := 40) (i := 0) C dX11_mark_40 rfl rfl ?_
      refine a_get (pc := 41) C fl_X11_10 dX11_mark_41 0 rfl rfl ?_
      refine a_xVv (pc := 44) (As := [.ref (A 1)]) (st := []) C (k_skyBuild (ka := ka) (post := fun x2 => post 1 x2 M) A (fun pl' hp => hw pl' (fun z hz => hp z (List.mem_append_right _ hz)))) dX11_mark_44 mth_X6_build tml_X11_64 (fun _ _ h => h.1.1) (FzC_ok ka) (rmLC (Nat.le_of_ble_eq_true rfl) (Nat.le_of_ble_eq_true rfl) (Nat.le_of_ble_eq_true rfl) (Nat.le_of_ble_eq_true rfl)) (Nat.le_of_ble_eq_true rfl) rfl rfl (ci := 6) rfl ⟨51, _, rfl⟩ (m := 82) (fun _ => rfl) (fun u hw => ?_)
      generalize ((x1.1, u1 (u1 x1.2.1 18 u.2.2.1) 17 u.2.2.2.1, u1 (u1 (u1 (u1 x1.2.2.1 8 u.1) 9 u.2.1) 7 u.2.2.2.2.1) 6 u.2.2.2.2.2, x1.2.2.2.1, x1.2.2.2.2.1, x1.2.2.2.2.2.1, x1.2.2.2.2.2.2) : XS) = x2 at hw ⊢
      refine a_iconst (pc := 47) (v := 1) C dX11_mark_47 rfl ?_
      refine a_perm (ws' := w11 (cxG X) A x2 ++ mkW (cxG X) M) (pl' := pl) (by rw [List.append_assoc]) ?_
      exact a_widen (Nat.le_of_ble_eq_true rfl) (Nat.le_of_ble_eq_true rfl) (hret 1 (x2, M) _ _ hz1 hw dX11_mark_48)
