/-! THE WORLDS: the class's cells, the reference's cells, as functions of two rows of values -/
def w11 (g : GG) (A : Nat → Nat) (x : XS) : va_W := [(A 0, ob 11 [.ref (A 1), .ref (A 18), .ref (A 35), .ref (A 36), .ref (A 51), .ref (A 64), .ref (A 74), .ref (A 79)]), (A 1, ob 8 [.ref (A 2), .ref (A 3), .ref (A 4), .ref (A 6), .ref (A 8), .ref (A 10), .ref (A 11), .ref (A 12), .ref (A 14), .ref (A 16), .int x.t_town_awningLines, .int x.t_town_shutLines, .int x.t_town_waterLines, .int x.t_town_sunLines]), (A 2, aI g 100 x.t_town_kinds), (A 3, aI g 100 x.t_town_heights), (A 4, ob 5 [.ref (A 5)]), (A 5, aJ g 960 x.t_town_awnings_words), (A 6, ob 5 [.ref (A 7)]), (A 7, aJ g 960 x.t_town_shuts_words), (A 8, ob 5 [.ref (A 9)]), (A 9, aJ g 2 x.t_town_water_words), (A 10, aS g 24 x.t_town_suns), (A 11, aW g 6 x.t_town_walkers), (A 12, ob 0 [.ref (A 13), .int x.t_town_places_size]), (A 13, aI g 8 x.t_town_places_items), (A 14, ob 0 [.ref (A 15), .int x.t_town_procession_size]), (A 15, aI g 30 x.t_town_procession_items), (A 16, ob 0 [.ref (A 17), .int x.t_town_told_size]), (A 17, aI g 60 x.t_town_told_items), (A 18, ob 8 [.ref (A 19), .ref (A 20), .ref (A 21), .ref (A 23), .ref (A 25), .ref (A 27), .ref (A 28), .ref (A 29), .ref (A 31), .ref (A 33), .int x.t_spare_awningLines, .int x.t_spare_shutLines, .int x.t_spare_waterLines, .int x.t_spare_sunLines]), (A 19, aI g 100 x.t_spare_kinds), (A 20, aI g 100 x.t_spare_heights), (A 21, ob 5 [.ref (A 22)]), (A 22, aJ g 960 x.t_spare_awnings_words), (A 23, ob 5 [.ref (A 24)]), (A 24, aJ g 960 x.t_spare_shuts_words), (A 25, ob 5 [.ref (A 26)]), (A 26, aJ g 2 x.t_spare_water_words), (A 27, aS g 24 x.t_spare_suns), (A 28, aW g 6 x.t_spare_walkers), (A 29, ob 0 [.ref (A 30), .int x.t_spare_places_size]), (A 30, aI g 8 x.t_spare_places_items), (A 31, ob 0 [.ref (A 32), .int x.t_spare_procession_size]), (A 32, aI g 30 x.t_spare_procession_items), (A 33, ob 0 [.ref (A 34), .int x.t_spare_told_size]), (A 34, aI g 60 x.t_spare_told_items), (A 35, aT g 4 x.t_marks), (A 36, ob 4 [.ref (A 37), .ref (A 39), .ref (A 41), .ref (A 43), .ref (A 45), x.t_reader_town, .int x.t_reader_ahead, .int x.t_reader_token, .int x.t_reader_value, .int x.t_reader_place, .int x.t_reader_number, .int x.t_reader_numberPlace, .int x.t_reader_site, .int x.t_reader_fault]), (A 37, ob 0 [.ref (A 38), .int x.t_reader_tape_size]), (A 38, aI g 1000 x.t_reader_tape_items), (A 39, ob 0 [.ref (A 40), .int x.t_reader_tokens_size]), (A 40, aI g 1001 x.t_reader_tokens_items), (A 41, ob 0 [.ref (A 42), .int x.t_reader_values_size]), (A 42, aI g 1001 x.t_reader_values_items), (A 43, ob 0 [.ref (A 44), .int x.t_reader_places_size]), (A 44, aI g 1001 x.t_reader_places_items), (A 45, ob 2 [.ref (A 46), .ref (A 48), .ref (A 50), .int x.t_reader_formula_depth, .int x.t_reader_formula_wantsPart]), (A 46, ob 0 [.ref (A 47), .int x.t_reader_formula_code_size]), (A 47, aI g 1000 x.t_reader_formula_code_items), (A 48, ob 0 [.ref (A 49), .int x.t_reader_formula_pending_size]), (A 49, aI g 1000 x.t_reader_formula_pending_items), (A 50, aI g 64 x.t_reader_formula_values), (A 51, ob 6 [.ref (A 52), .ref (A 53), .ref (A 55), .ref (A 57), .ref (A 59), .ref (A 61), .ref (A 62), .ref (A 63), .ref (A 1)]), (A 52, aI g 480 x.t_sky_lines), (A 53, ob 5 [.ref (A 54)]), (A 54, aJ g 960 x.t_sky_shades_words), (A 55, ob 5 [.ref (A 56)]), (A 56, aJ g 48 x.t_sky_casts_words), (A 57, ob 5 [.ref (A 58)]), (A 58, aJ g 2 x.t_sky_roofs_words), (A 59, ob 5 [.ref (A 60)]), (A 60, aJ g 2 x.t_sky_ground_words), (A 61, aI g 400 x.t_sky_next), (A 62, aI g 100 x.t_sky_queue), (A 63, aI g 100 x.t_sky_steps), (A 64, ob 9 [.ref (A 51), .ref (A 65), .ref (A 67), .ref (A 69), .ref (A 70), xr x.t_walk_extra_b (A 81), .ref (A 71), .ref (A 73), .ref x.t_walk_walker, .int x.t_walk_day, .int x.t_walk_first, .int x.t_walk_from, .int x.t_walk_to, .int x.t_walk_hot, .int x.t_walk_cool, .int x.t_walk_waits, .int x.t_walk_aims, .int x.t_walk_most, .int x.t_walk_cost, .int x.t_walk_arrival, .int x.t_walk_place]), (A 65, ob 5 [.ref (A 66)]), (A 66, aJ g 240 x.t_walk_dark_words), (A 67, ob 5 [.ref (A 68)]), (A 68, aJ g 240 x.t_walk_live_words), (A 69, aI g 12000 x.t_walk_reach), (A 70, aI g 12000 x.t_walk_labels), (A 71, ob 0 [.ref (A 72), .int x.t_walk_way_size]), (A 72, aI g 120 x.t_walk_way_items), (A 73, aI g 120 x.t_walk_path), (A 74, ob 3 [.ref (A 64), .ref (A 75), .ref (A 77), .int x.t_garden_chosen, .int x.t_garden_best, .int x.t_garden_gain]), (A 75, ob 5 [.ref (A 76)]), (A 76, aJ g 48 x.t_garden_shadows_words), (A 77, ob 5 [.ref (A 78)]), (A 78, aJ g 240 x.t_garden_near_words), (A 79, ob 1 [.ref (A 64), .ref (A 80), .ref (A 81), .int x.t_group_members, .int x.t_group_each, .int x.t_group_by, .int x.t_group_rounds, .int x.t_group_costs, .int x.t_group_suns, .int x.t_group_greatest]), (A 80, aI g 960 x.t_group_where), (A 81, aI g 12000 x.t_group_crowding)]
def w12 (g : GG) (A : Nat → Nat) (y : YS) : va_W := [(A 0, ob 12 [.int y.t_thrown, .ref (A 1), .int y.t_taped, .int y.t_size, .ref (A 2), .ref (A 3), .ref (A 4), .int y.t_at, .int y.t_fault, .ref (A 5), .ref (A 6), .ref (A 7), .ref (A 8), .int y.t_codes, .ref (A 9), .ref (A 10), .int y.t_shadeDay, .ref (A 11), .ref (A 12), .ref (A 13), .ref (A 14), .ref (A 15), .ref (A 16), .ref (A 17), .int y.t_wayMany, .ref (A 18), .ref (A 19), .ref (A 20), .ref (A 21), .ref (A 22), .int y.t_crowdRounds, .int y.t_bestSquare, .int y.t_bestBy, .int y.t_spotsMany, .ref (A 23), .int y.t_followed, .ref (A 24), .int y.t_toldMany, .ref (A 25), .ref (A 26), .ref (A 27), .ref (A 28), .ref (A 29)]), (A 1, aI g 1000 y.t_tape), (A 2, aI g 1002 y.t_sort), (A 3, aI g 1002 y.t_place), (A 4, aJ g 1002 y.t_value), (A 5, aJ g 30 y.t_words), (A 6, aI g 2640 y.t_towns), (A 7, aI g 6600 y.t_op), (A 8, aI g 6600 y.t_arg), (A 9, aI g 2 y.t_facts), (A 10, aI g 1100 y.t_pile), (A 11, aI g 12000 y.t_sun), (A 12, aZ g 12000 y.t_isShut), (A 13, aI g 100 y.t_sunny), (A 14, aI g 12000 y.t_cost), (A 15, aI g 12000 y.t_leastCost), (A 16, aI g 12000 y.t_leastEnd), (A 17, aI g 120 y.t_wayOf), (A 18, aI g 120 y.t_whereAt), (A 19, aI g 12000 y.t_reach), (A 20, aJ g 1300 y.t_likely), (A 21, aI g 960 y.t_crowdAt), (A 22, aI g 8 y.t_crowdBy), (A 23, aI g 8 y.t_spotAt), (A 24, aI g 30 y.t_followOf), (A 25, aI g 60 y.t_toldOf), (A 26, aI g 100 y.t_stepsTo), (A 27, aI g 12000 y.t_reachOne), (A 28, aZ g 4 y.t_isMarked), (A 29, aI g 404 y.t_markOf)]
section LF
variable {rest : va_W} {l : Launch} {y : MethodName} {cc : ByteArray} {nL : Nat} {ret : Option FieldType} {rm : Room} {g : GG} {Fz : (Nat → Prop) → State → Prop} {av : List Value} {wc ws : va_W} {pl pl' : Pool} {S : Type} {Wf ws' : S → va_W} {Pf Pf' : S → Pool} {mc ms m : Nat}
theorem vaA_perm {a b : va_W} (h : a.Perm b) (sz : Nat) : va_A a sz = va_A b sz := by
  funext q
  have key : ∀ {a b : va_W}, a.Perm b → va_A a sz q → va_A b sz q := by
    intro a b h z
    rcases z with ⟨i, e, z⟩ | z
    · obtain ⟨j, hj⟩ := List.mem_iff_getElem?.mp (h.mem_iff.mp (List.mem_of_getElem? z))
      exact Or.inl ⟨j, e, hj⟩
    · exact Or.inr z
  exact propext ⟨key h, key h.symm⟩
theorem gPc_perm (h : (wc ++ pl).Perm (ws ++ pl')) (sz : Nat) : gPc g av wc pl sz Fz = gPc g av ws pl' sz Fz := by
  have e : ∀ U : State, (U.heap.size = sz ∧ va_P g.1 vwCl (wc ++ pl) U.heap ∧ va_K g.1 vwCl (tyL g.2) U ∧ va_D (fun _ => True) (wc ++ pl) ∧ Fz (va_A (wc ++ pl) sz) U) = (U.heap.size = sz ∧ va_P g.1 vwCl (ws ++ pl') U.heap ∧ va_K g.1 vwCl (tyL g.2) U ∧ va_D (fun _ => True) (ws ++ pl') ∧ Fz (va_A (ws ++ pl') sz) U) := by
    intro U
    rw [vaA_perm h sz]
    exact propext ⟨fun ⟨a, b, c, d, f⟩ => ⟨a, vaP_perm h b, c, vaD_perm h d, f⟩, fun ⟨a, b, c, d, f⟩ => ⟨a, vaP_perm h.symm b, c, vaD_perm h.symm d, f⟩⟩
  unfold gPc
  rw [funext e]
theorem gB_perm (h : (wc ++ pl).Perm (ws ++ pl')) (h2 : ∀ u, (Wf u ++ Pf u).Perm (ws' u ++ Pf' u)) (sz : Nat) : gB g wc pl sz Wf Pf = gB g ws pl' sz ws' Pf' := by
  funext u t
  unfold gB
  rw [vaA_perm h sz]
  exact propext ⟨fun ⟨a, b⟩ => ⟨vaP_perm (h2 u) a, vaD_perm (h2 u) b⟩, fun ⟨a, b⟩ => ⟨vaP_perm (h2 u).symm a, vaD_perm (h2 u).symm b⟩⟩
theorem pick_app (ws : va_W) (a b : List Nat) : pick ws (a ++ b) = pick ws a ++ pick ws b := List.filterMap_append
theorem lift_perm (i1 i2 : List Nat) (hp : (i1 ++ i2).isPerm (List.range m) = true) (hm : ws.length = m) (h1 : pick ws i1 = wc) : (wc ++ (pick ws i2 ++ pl)).Perm (ws ++ pl) := by
  have h := pick_perm (List.isPerm_iff.mp (hm ▸ hp))
  rw [pick_app, h1] at h
  rw [← List.append_assoc]
  exact List.Perm.append_right pl h
theorem MI_lift (i1 i2 : List Nat) (hp : (i1 ++ i2).isPerm (List.range m) = true) (hm : ws.length = m) (h1 : pick ws i1 = wc) (hm2 : ∀ u, (ws' u).length = m) (h2 : ∀ u, pick (ws' u) i1 = Wf u) (h1' : pick ws i2 = rest) (h3 : ∀ u, pick (ws' u) i2 = rest) {post : Int32 → S → Prop} (hM : MI l y cc nL ret rm g Fz av wc (rest ++ pl) post Wf (fun _ => rest ++ pl) mc ms) : MI l y cc nL ret rm g Fz av ws pl post ws' (fun _ => pl) mc ms := by
  intro sz
  have p1 := lift_perm (pl := pl) i1 i2 hp hm h1
  rw [h1'] at p1
  have p2 : ∀ u, (Wf u ++ (rest ++ pl)).Perm (ws' u ++ pl) := fun u => by
    have := lift_perm (pl := pl) i1 i2 hp (hm2 u) (h2 u)
    rw [h3 u] at this
    exact this
  have := hM sz
  rw [gPc_perm p1 sz, gB_perm p1 p2 sz, vaA_perm p1 sz] at this
  exact this
theorem ML_lift (i1 i2 : List Nat) (hp : (i1 ++ i2).isPerm (List.range m) = true) (hm : ws.length = m) (h1 : pick ws i1 = wc) (hm2 : ∀ u, (ws' u).length = m) (h2 : ∀ u, pick (ws' u) i1 = Wf u) (h1' : pick ws i2 = rest) (h3 : ∀ u, pick (ws' u) i2 = rest) {post : Int64 → S → Prop} (hM : ML l y cc nL ret rm g Fz av wc (rest ++ pl) post Wf (fun _ => rest ++ pl) mc ms) : ML l y cc nL ret rm g Fz av ws pl post ws' (fun _ => pl) mc ms := by
  intro sz
  have p1 := lift_perm (pl := pl) i1 i2 hp hm h1
  rw [h1'] at p1
  have p2 : ∀ u, (Wf u ++ (rest ++ pl)).Perm (ws' u ++ pl) := fun u => by
    have := lift_perm (pl := pl) i1 i2 hp (hm2 u) (h2 u)
    rw [h3 u] at this
    exact this
  have := hM sz
  rw [gPc_perm p1 sz, gB_perm p1 p2 sz, vaA_perm p1 sz] at this
  exact this
theorem MV_lift (i1 i2 : List Nat) (hp : (i1 ++ i2).isPerm (List.range m) = true) (hm : ws.length = m) (h1 : pick ws i1 = wc) (hm2 : ∀ u, (ws' u).length = m) (h2 : ∀ u, pick (ws' u) i1 = Wf u) (h1' : pick ws i2 = rest) (h3 : ∀ u, pick (ws' u) i2 = rest) {post : S → Prop} (hM : MV l y cc nL ret rm g Fz av wc (rest ++ pl) post Wf (fun _ => rest ++ pl) mc ms) : MV l y cc nL ret rm g Fz av ws pl post ws' (fun _ => pl) mc ms := by
  intro sz
  have p1 := lift_perm (pl := pl) i1 i2 hp hm h1
  rw [h1'] at p1
  have p2 : ∀ u, (Wf u ++ (rest ++ pl)).Perm (ws' u ++ pl) := fun u => by
    have := lift_perm (pl := pl) i1 i2 hp (hm2 u) (h2 u)
    rw [h3 u] at this
    exact this
  have := hM sz
  rw [gPc_perm p1 sz, gB_perm p1 p2 sz, vaA_perm p1 sz] at this
  exact this
theorem MXi_lift (i1 i2 : List Nat) (hp : (i1 ++ i2).isPerm (List.range m) = true) (hm : ws.length = m) (h1 : pick ws i1 = wc) (hm2 : ∀ u, (ws' u).length = m) (h2 : ∀ u, pick (ws' u) i1 = Wf u) (h1' : pick ws i2 = rest) (h3 : ∀ u, pick (ws' u) i2 = rest) {post : Option Int32 → S → Prop} (hM : MXi l y cc nL rm g Fz av wc (rest ++ pl) post Wf) : MXi l y cc nL rm g Fz av ws pl post ws' := by
  intro sz
  have p1 := lift_perm (pl := pl) i1 i2 hp hm h1
  rw [h1'] at p1
  have p2 : ∀ u, (Wf u ++ (rest ++ pl)).Perm (ws' u ++ pl) := fun u => by
    have := lift_perm (pl := pl) i1 i2 hp (hm2 u) (h2 u)
    rw [h3 u] at this
    exact this
  have := hM sz
  rw [gPc_perm p1 sz, gB_perm (Pf' := fun _ => pl) p1 p2 sz, vaA_perm p1 sz] at this
  exact this
theorem MXl_lift (i1 i2 : List Nat) (hp : (i1 ++ i2).isPerm (List.range m) = true) (hm : ws.length = m) (h1 : pick ws i1 = wc) (hm2 : ∀ u, (ws' u).length = m) (h2 : ∀ u, pick (ws' u) i1 = Wf u) (h1' : pick ws i2 = rest) (h3 : ∀ u, pick (ws' u) i2 = rest) {post : Option Int64 → S → Prop} (hM : MXl l y cc nL rm g Fz av wc (rest ++ pl) post Wf) : MXl l y cc nL rm g Fz av ws pl post ws' := by
  intro sz
  have p1 := lift_perm (pl := pl) i1 i2 hp hm h1
  rw [h1'] at p1
  have p2 : ∀ u, (Wf u ++ (rest ++ pl)).Perm (ws' u ++ pl) := fun u => by
    have := lift_perm (pl := pl) i1 i2 hp (hm2 u) (h2 u)
    rw [h3 u] at this
    exact this
  have := hM sz
  rw [gPc_perm p1 sz, gB_perm (Pf' := fun _ => pl) p1 p2 sz, vaA_perm p1 sz] at this
  exact this
end LF
