abbrev w_X6_castShadows (g : GG) (A_t A_t_casts A_t_casts_words A_t_town A_t_town_suns A_t_town_heights : Nat) (U_t_lines U_t_shades U_t_roofs U_t_ground U_t_next U_t_queue U_t_steps U_t_town_kinds U_t_town_awnings U_t_town_shuts U_t_town_water U_t_town_walkers U_t_town_places U_t_town_procession U_t_town_told U_t_town_awningLines U_t_town_shutLines U_t_town_waterLines : Value) (t_casts_words : Nat → Int64) (t_town_sunLines : Int32) (t_town_suns : Nat → Option Nat) (t_town_heights : Nat → Int32) : va_W := [(A_t, ob 6 [U_t_lines, U_t_shades, .ref A_t_casts, U_t_roofs, U_t_ground, U_t_next, U_t_queue, U_t_steps, .ref A_t_town]), (A_t_casts, ob 5 [.ref A_t_casts_words]), (A_t_casts_words, aJ g 48 t_casts_words), (A_t_town, ob 8 [U_t_town_kinds, .ref A_t_town_heights, U_t_town_awnings, U_t_town_shuts, U_t_town_water, .ref A_t_town_suns, U_t_town_walkers, U_t_town_places, U_t_town_procession, U_t_town_told, U_t_town_awningLines, U_t_town_shutLines, U_t_town_waterLines, .int t_town_sunLines]), (A_t_town_suns, aS g 24 t_town_suns), (A_t_town_heights, aI g 100 t_town_heights)]
set_option maxRecDepth 20000 in
theorem m_X6_castShadows_L31 {X : Ctx} {ka : KA} (C : Cok X cX6_castShadows 4 RX6 (rmL 3) (FzC ka)) {pl : Pool} {A_t A_t_casts A_t_casts_words A_t_town A_t_town_suns A_t_town_heights : Nat} {U_t_lines U_t_shades U_t_roofs U_t_ground U_t_next U_t_queue U_t_steps U_t_town_kinds U_t_town_awnings U_t_town_shuts U_t_town_water U_t_town_walkers U_t_town_places U_t_town_procession U_t_town_told U_t_town_awningLines U_t_town_shutLines U_t_town_waterLines : Value} {t_town_sunLines : Int32} {t_town_suns : Nat → Option Nat} {t_town_heights : Nat → Int32} {post : (Nat → Int64) → Prop} (hret : ∀ (w0 : Nat → Int64) (pc : Nat) (lo : List (Option Value)), post w0 → decode cX6_castShadows pc = .ok (.return_, 1) → AW X 4 0 0 (w_X6_castShadows (cxG X) A_t A_t_casts A_t_casts_words A_t_town A_t_town_suns A_t_town_heights U_t_lines U_t_shades U_t_roofs U_t_ground U_t_next U_t_queue U_t_steps U_t_town_kinds U_t_town_awnings U_t_town_shuts U_t_town_water U_t_town_walkers U_t_town_places U_t_town_procession U_t_town_told U_t_town_awningLines U_t_town_shutLines U_t_town_waterLines w0 t_town_sunLines t_town_suns t_town_heights) pl pc lo []) {x_78 : (Nat → Int64) → Int32 → Prop} (hx_78 : ∀ (t_casts_words : Nat → Int64) (l1 : Int32) , x_78 t_casts_words l1 → AW X 4 0 0 (w_X6_castShadows (cxG X) A_t A_t_casts A_t_casts_words A_t_town A_t_town_suns A_t_town_heights U_t_lines U_t_shades U_t_roofs U_t_ground U_t_next U_t_queue U_t_steps U_t_town_kinds U_t_town_awnings U_t_town_shuts U_t_town_water U_t_town_walkers U_t_town_places U_t_town_procession U_t_town_told U_t_town_awningLines U_t_town_shutLines U_t_town_waterLines t_casts_words t_town_sunLines t_town_suns t_town_heights) pl 78 [some (.ref A_t), some (.int l1), none, none] []) : ∀ (n31 : Nat) (t_casts_words : Nat → Int64) (l1 : Int32) (l2 : Option Nat) (l3 : Int32) , lp (wp_X6_castShadows_L31 pl x_78 t_town_sunLines t_town_suns t_town_heights post) n31 (t_casts_words, l1, l2, l3) → AW X 4 0 0 (w_X6_castShadows (cxG X) A_t A_t_casts A_t_casts_words A_t_town A_t_town_suns A_t_town_heights U_t_lines U_t_shades U_t_roofs U_t_ground U_t_next U_t_queue U_t_steps U_t_town_kinds U_t_town_awnings U_t_town_shuts U_t_town_water U_t_town_walkers U_t_town_places U_t_town_procession U_t_town_told U_t_town_awningLines U_t_town_shutLines U_t_town_waterLines t_casts_words t_town_sunLines t_town_suns t_town_heights) pl 31 [some (.ref A_t), some (.int l1), some (va_rf l2), some (.int l3)] [] := by
  intro n31
  induction n31 with
  | zero => exact fun _ _ _ _ hw => hw.elim
  | succ n31 hkb =>
    intro t_casts_words l1 l2 l3 hw
    replace hw : wp_X6_castShadows_L31 pl x_78 t_town_sunLines t_town_suns t_town_heights post (lp (wp_X6_castShadows_L31 pl x_78 t_town_sunLines t_town_suns t_town_heights post) n31) (t_casts_words, l1, l2, l3) := hw
    generalize lp (wp_X6_castShadows_L31 pl x_78 t_town_sunLines t_town_suns t_town_heights post) n31 = kb at hw hkb
    refine a_iload_n (pc := 31) (i := 3) C dX6_castShadows_31 rfl rfl ?_
    refine a_bipush (pc := 32) C dX6_castShadows_32 kb_100 ?_
    refine a_icmp_ge (pc := 34) (tgt := 78) C dX6_castShadows_34 (by decide) (fun c_34 => ?_) (fun c_34 => ?_)
    · replace hw := hw.1 c_34
      refine a_msk [true, true, false, false] rfl ?_
      exact hx_78 _ _ hw
    · replace hw := hw.2 c_34
      refine a_aload_nO (pc := 37) (i := 2) C dX6_castShadows_37 rfl rfl ?_
      refine a_ifnullO (pc := 38) (tgt := 78) C dX6_castShadows_38 (by decide) (fun c_38 => ?_) (fun q38 c_38 => ?_)
      · replace hw := hw.1 c_38
        subst c_38
        refine a_msk [true, true, false, false] rfl ?_
        exact hx_78 _ _ hw
      · replace hw := hw.2 q38 c_38
        subst c_38
        refine a_aload_n (pc := 41) (i := 0) C dX6_castShadows_41 rfl rfl ?_
        refine a_get (pc := 42) C fl_X6_42 dX6_castShadows_42 0 rfl rfl ?_
        refine a_get (pc := 45) C fl_X6_118 dX6_castShadows_45 3 rfl rfl ?_
        refine a_iload_n (pc := 48) (i := 3) C dX6_castShadows_48 rfl rfl ?_
        obtain ⟨i_49, hw⟩ := hw
        refine a_iald (pc := 49) C dX6_castShadows_49 5 rfl i_49 ?_
        refine a_if_le (pc := 50) (tgt := 72) C dX6_castShadows_50 (by decide) (fun c_50 => ?_) (fun c_50 => ?_)
        · replace hw := hw.1 c_50
          refine a_inc (pc := 72) (i := 3) C (fun y => [some (.ref A_t), some (.int l1), some (.ref q38), some (.int y)]) dX6_castShadows_72 rfl kc_1 (by decide) rfl (fun _ => rfl) (fun y72 e_y72 => ?_)
          replace hw := hw y72 e_y72
          refine a_goto (pc := 75) (tgt := 31) C dX6_castShadows_75 (by decide) ?_
          exact hkb _ _ _ _ hw
        · replace hw := hw.2 c_50
          refine a_aload_n (pc := 53) (i := 2) C dX6_castShadows_53 rfl rfl ?_
          refine a_aload_n (pc := 54) (i := 0) C dX6_castShadows_54 rfl rfl ?_
          refine a_get (pc := 55) C fl_X6_24 dX6_castShadows_55 0 rfl rfl ?_
          refine a_iload_n (pc := 58) (i := 1) C dX6_castShadows_58 rfl rfl ?_
          refine a_iload_n (pc := 59) (i := 3) C dX6_castShadows_59 rfl rfl ?_
          refine a_aload_n (pc := 60) (i := 0) C dX6_castShadows_60 rfl rfl ?_
          refine a_get (pc := 61) C fl_X6_42 dX6_castShadows_61 0 rfl rfl ?_
          refine a_get (pc := 64) C fl_X6_118 dX6_castShadows_64 3 rfl rfl ?_
          refine a_iload_n (pc := 67) (i := 3) C dX6_castShadows_67 rfl rfl ?_
          obtain ⟨i_68, hw⟩ := hw
          refine a_iald (pc := 68) C dX6_castShadows_68 5 rfl i_68 ?_
          obtain ⟨o69_day, o69_minute, o69_direction, o69_over, o69_under, hp_o69, hw⟩ := hw
          refine a_callVv (pc := 69) (As := [.ref A_t_casts, .int l1, .int l3, .int (t_town_heights (Int32.toNatClampNeg l3))]) (st := []) (ws' := (fun u => (w_X6_castShadows (cxG X) A_t A_t_casts A_t_casts_words A_t_town A_t_town_suns A_t_town_heights U_t_lines U_t_shades U_t_roofs U_t_ground U_t_next U_t_queue U_t_steps U_t_town_kinds U_t_town_awnings U_t_town_shuts U_t_town_water U_t_town_walkers U_t_town_places U_t_town_procession U_t_town_told U_t_town_awningLines U_t_town_shutLines U_t_town_waterLines u t_town_sunLines t_town_suns t_town_heights))) C (c_X7_cast A_t_casts A_t_casts_words q38 48 (.int o69_day) (.int o69_minute) hp_o69 hw) dX6_castShadows_69 mth_X7_cast tml_X6_121 (fun _ _ h => h) (FzC_ok ka) (rml (by decide) (by decide)) (Nat.le_of_ble_eq_true rfl) rfl rfl [1, 2] [0, 3, 4, 5] [0, 4, 5, 1, 2, 3] rfl rfl rfl rfl rfl rfl (ci := 7) rfl (pool_rec hp_o69) (fun _ => rfl) rfl (fun _ => rfl) (fun u hw => ?_)
          obtain ⟨t_casts_words_69, rfl⟩ : ∃ z, z = u := ⟨_, rfl⟩
          show AW X 4 0 0 (w_X6_castShadows (cxG X) A_t A_t_casts A_t_casts_words A_t_town A_t_town_suns A_t_town_heights U_t_lines U_t_shades U_t_roofs U_t_ground U_t_next U_t_queue U_t_steps U_t_town_kinds U_t_town_awnings U_t_town_shuts U_t_town_water U_t_town_walkers U_t_town_places U_t_town_procession U_t_town_told U_t_town_awningLines U_t_town_shutLines U_t_town_waterLines t_casts_words_69 t_town_sunLines t_town_suns t_town_heights) pl 72 [some (.ref A_t), some (.int l1), some (.ref q38), some (.int l3)] []
          refine a_inc (pc := 72) (i := 3) C (fun y => [some (.ref A_t), some (.int l1), some (.ref q38), some (.int y)]) dX6_castShadows_72 rfl kc_1 (by decide) rfl (fun _ => rfl) (fun y72 e_y72 => ?_)
          replace hw := hw y72 e_y72
          refine a_goto (pc := 75) (tgt := 31) C dX6_castShadows_75 (by decide) ?_
          exact hkb _ _ _ _ hw
set_option maxRecDepth 20000 in
theorem m_X6_castShadows_L9 {X : Ctx} {ka : KA} (C : Cok X cX6_castShadows 4 RX6 (rmL 3) (FzC ka)) {pl : Pool} {A_t A_t_casts A_t_casts_words A_t_town A_t_town_suns A_t_town_heights : Nat} {U_t_lines U_t_shades U_t_roofs U_t_ground U_t_next U_t_queue U_t_steps U_t_town_kinds U_t_town_awnings U_t_town_shuts U_t_town_water U_t_town_walkers U_t_town_places U_t_town_procession U_t_town_told U_t_town_awningLines U_t_town_shutLines U_t_town_waterLines : Value} {t_town_sunLines : Int32} {t_town_suns : Nat → Option Nat} {t_town_heights : Nat → Int32} {post : (Nat → Int64) → Prop} (hret : ∀ (w0 : Nat → Int64) (pc : Nat) (lo : List (Option Value)), post w0 → decode cX6_castShadows pc = .ok (.return_, 1) → AW X 4 0 0 (w_X6_castShadows (cxG X) A_t A_t_casts A_t_casts_words A_t_town A_t_town_suns A_t_town_heights U_t_lines U_t_shades U_t_roofs U_t_ground U_t_next U_t_queue U_t_steps U_t_town_kinds U_t_town_awnings U_t_town_shuts U_t_town_water U_t_town_walkers U_t_town_places U_t_town_procession U_t_town_told U_t_town_awningLines U_t_town_shutLines U_t_town_waterLines w0 t_town_sunLines t_town_suns t_town_heights) pl pc lo []) {x_84 : (Nat → Int64) → Prop} (hx_84 : ∀ (t_casts_words : Nat → Int64) , x_84 t_casts_words → AW X 4 0 0 (w_X6_castShadows (cxG X) A_t A_t_casts A_t_casts_words A_t_town A_t_town_suns A_t_town_heights U_t_lines U_t_shades U_t_roofs U_t_ground U_t_next U_t_queue U_t_steps U_t_town_kinds U_t_town_awnings U_t_town_shuts U_t_town_water U_t_town_walkers U_t_town_places U_t_town_procession U_t_town_told U_t_town_awningLines U_t_town_shutLines U_t_town_waterLines t_casts_words t_town_sunLines t_town_suns t_town_heights) pl 84 [none, none, none, none] []) : ∀ (n9 : Nat) (t_casts_words : Nat → Int64) (l1 : Int32) , lp (wp_X6_castShadows_L9 pl x_84 t_town_sunLines t_town_suns t_town_heights post) n9 (t_casts_words, l1) → AW X 4 0 0 (w_X6_castShadows (cxG X) A_t A_t_casts A_t_casts_words A_t_town A_t_town_suns A_t_town_heights U_t_lines U_t_shades U_t_roofs U_t_ground U_t_next U_t_queue U_t_steps U_t_town_kinds U_t_town_awnings U_t_town_shuts U_t_town_water U_t_town_walkers U_t_town_places U_t_town_procession U_t_town_told U_t_town_awningLines U_t_town_shutLines U_t_town_waterLines t_casts_words t_town_sunLines t_town_suns t_town_heights) pl 9 [some (.ref A_t), some (.int l1), none, none] [] := by
  intro n9
  induction n9 with
  | zero => exact fun _ _ hw => hw.elim
  | succ n9 hkb =>
    intro t_casts_words l1 hw
    replace hw : wp_X6_castShadows_L9 pl x_84 t_town_sunLines t_town_suns t_town_heights post (lp (wp_X6_castShadows_L9 pl x_84 t_town_sunLines t_town_suns t_town_heights post) n9) (t_casts_words, l1) := hw
    generalize lp (wp_X6_castShadows_L9 pl x_84 t_town_sunLines t_town_suns t_town_heights post) n9 = kb at hw hkb
    refine a_iload_n (pc := 9) (i := 1) C dX6_castShadows_9 rfl rfl ?_
    refine a_aload_n (pc := 10) (i := 0) C dX6_castShadows_10 rfl rfl ?_
    refine a_get (pc := 11) C fl_X6_42 dX6_castShadows_11 0 rfl rfl ?_
    refine a_get (pc := 14) C fl_X6_91 dX6_castShadows_14 3 rfl rfl ?_
    refine a_icmp_ge (pc := 17) (tgt := 84) C dX6_castShadows_17 (by decide) (fun c_17 => ?_) (fun c_17 => ?_)
    · replace hw := hw.1 c_17
      refine a_msk [false, false, true, true] rfl ?_
      exact hx_84 _ hw
    · replace hw := hw.2 c_17
      refine a_aload_n (pc := 20) (i := 0) C dX6_castShadows_20 rfl rfl ?_
      refine a_get (pc := 21) C fl_X6_42 dX6_castShadows_21 0 rfl rfl ?_
      refine a_iload_n (pc := 24) (i := 1) C dX6_castShadows_24 rfl rfl ?_
      refine a_callVo (pc := 25) (As := [.int l1]) (st := []) (ws' := (fun _ => (w_X6_castShadows (cxG X) A_t A_t_casts A_t_casts_words A_t_town A_t_town_suns A_t_town_heights U_t_lines U_t_shades U_t_roofs U_t_ground U_t_next U_t_queue U_t_steps U_t_town_kinds U_t_town_awnings U_t_town_shuts U_t_town_water U_t_town_walkers U_t_town_places U_t_town_procession U_t_town_told U_t_town_awningLines U_t_town_shutLines U_t_town_waterLines t_casts_words t_town_sunLines t_town_suns t_town_heights))) C (c_X8_sun A_t_town A_t_town_suns U_t_town_kinds (.ref A_t_town_heights) U_t_town_awnings U_t_town_shuts U_t_town_water U_t_town_walkers U_t_town_places U_t_town_procession U_t_town_told U_t_town_awningLines U_t_town_shutLines U_t_town_waterLines hw) dX6_castShadows_25 mth_X8_sun tml_X6_95 (fun _ _ h => trivial) Fz0_ok (rml (by decide) (by decide)) (Nat.le_of_ble_eq_true rfl) rfl rfl [3, 4] [0, 1, 2, 5] [0, 1, 2, 4, 5, 3] rfl rfl rfl rfl rfl rfl (ci := 8) rfl ⟨0, _, rfl⟩ (fun _ => rfl) rfl (fun _ => rfl) (fun r25 u hw => ?_)
      show AW X 4 0 0 (w_X6_castShadows (cxG X) A_t A_t_casts A_t_casts_words A_t_town A_t_town_suns A_t_town_heights U_t_lines U_t_shades U_t_roofs U_t_ground U_t_next U_t_queue U_t_steps U_t_town_kinds U_t_town_awnings U_t_town_shuts U_t_town_water U_t_town_walkers U_t_town_places U_t_town_procession U_t_town_told U_t_town_awningLines U_t_town_shutLines U_t_town_waterLines t_casts_words t_town_sunLines t_town_suns t_town_heights) pl 28 [some (.ref A_t), some (.int l1), none, none] [va_rf r25]
      refine s_astore_nO (pc := 28) (i := 2) (lo' := [some (.ref A_t), some (.int l1), some (va_rf r25), none]) C dX6_castShadows_28 rfl (by decide) rfl rfl ?_
      refine a_iconst (pc := 29) C dX6_castShadows_29 kc_0 ?_
      refine s_istore_n (pc := 30) (i := 3) (lo' := [some (.ref A_t), some (.int l1), some (va_rf r25), some (.int 0)]) C dX6_castShadows_30 rfl (by decide) (okS_rf rfl) rfl ?_
      obtain ⟨n31, hw⟩ := hw
      refine m_X6_castShadows_L31 C hret (fun t_casts_words l1 hw => ?_) n31 _ _ _ _ hw
      refine a_inc (pc := 78) (i := 1) C (fun y => [some (.ref A_t), some (.int y), none, none]) dX6_castShadows_78 rfl kc_1 (by decide) rfl (fun _ => rfl) (fun y78 e_y78 => ?_)
      replace hw := hw y78 e_y78
      refine a_goto (pc := 81) (tgt := 9) C dX6_castShadows_81 (by decide) ?_
      exact hkb _ _ hw
set_option maxRecDepth 20000 in
theorem m_X6_castShadows {X : Ctx} {ka : KA} (C : Cok X cX6_castShadows 4 RX6 (rmL 3) (FzC ka)) {pl : Pool} {A_t A_t_casts A_t_casts_words A_t_town A_t_town_suns A_t_town_heights : Nat} {U_t_lines U_t_shades U_t_roofs U_t_ground U_t_next U_t_queue U_t_steps U_t_town_kinds U_t_town_awnings U_t_town_shuts U_t_town_water U_t_town_walkers U_t_town_places U_t_town_procession U_t_town_told U_t_town_awningLines U_t_town_shutLines U_t_town_waterLines : Value} {t_town_sunLines : Int32} {t_town_suns : Nat → Option Nat} {t_town_heights : Nat → Int32} {t_casts_words : Nat → Int64} {post : (Nat → Int64) → Prop} (hret : ∀ (w0 : Nat → Int64) (pc : Nat) (lo : List (Option Value)), post w0 → decode cX6_castShadows pc = .ok (.return_, 1) → AW X 4 0 0 (w_X6_castShadows (cxG X) A_t A_t_casts A_t_casts_words A_t_town A_t_town_suns A_t_town_heights U_t_lines U_t_shades U_t_roofs U_t_ground U_t_next U_t_queue U_t_steps U_t_town_kinds U_t_town_awnings U_t_town_shuts U_t_town_water U_t_town_walkers U_t_town_places U_t_town_procession U_t_town_told U_t_town_awningLines U_t_town_shutLines U_t_town_waterLines w0 t_town_sunLines t_town_suns t_town_heights) pl pc lo []) (hw : wp_X6_castShadows pl t_town_sunLines t_town_suns t_town_heights t_casts_words post) : AW X 4 0 0 (w_X6_castShadows (cxG X) A_t A_t_casts A_t_casts_words A_t_town A_t_town_suns A_t_town_heights U_t_lines U_t_shades U_t_roofs U_t_ground U_t_next U_t_queue U_t_steps U_t_town_kinds U_t_town_awnings U_t_town_shuts U_t_town_water U_t_town_walkers U_t_town_places U_t_town_procession U_t_town_told U_t_town_awningLines U_t_town_shutLines U_t_town_waterLines t_casts_words t_town_sunLines t_town_suns t_town_heights) pl 0 [some (.ref A_t), none, none, none] [] := by
  replace hw : wp_X5_empty 48 t_casts_words (fun t_casts_words_4 => ∃ n, lp (wp_X6_castShadows_L9 pl (fun t_casts_words => post t_casts_words) t_town_sunLines t_town_suns t_town_heights post) n (t_casts_words_4, 0)) := hw
  refine a_aload_n (pc := 0) (i := 0) C dX6_castShadows_0 rfl rfl ?_
  refine a_get (pc := 1) C fl_X6_24 dX6_castShadows_1 0 rfl rfl ?_
  refine a_callVv (pc := 4) (As := []) (st := []) (ws' := (fun u => (w_X6_castShadows (cxG X) A_t A_t_casts A_t_casts_words A_t_town A_t_town_suns A_t_town_heights U_t_lines U_t_shades U_t_roofs U_t_ground U_t_next U_t_queue U_t_steps U_t_town_kinds U_t_town_awnings U_t_town_shuts U_t_town_water U_t_town_walkers U_t_town_places U_t_town_procession U_t_town_told U_t_town_awningLines U_t_town_shutLines U_t_town_waterLines u t_town_sunLines t_town_suns t_town_heights))) C (c_X5_empty A_t_casts A_t_casts_words 48 hw) dX6_castShadows_4 mth_X5_empty tml_X6_55 (fun _ _ h => trivial) Fz0_ok (rml (by decide) (by decide)) (Nat.le_of_ble_eq_true rfl) rfl rfl [1, 2] [0, 3, 4, 5] [0, 4, 5, 1, 2, 3] rfl rfl rfl rfl rfl rfl (ci := 5) rfl ⟨0, _, rfl⟩ (fun _ => rfl) rfl (fun _ => rfl) (fun u hw => ?_)
  obtain ⟨t_casts_words_4, rfl⟩ : ∃ z, z = u := ⟨_, rfl⟩
  show AW X 4 0 0 (w_X6_castShadows (cxG X) A_t A_t_casts A_t_casts_words A_t_town A_t_town_suns A_t_town_heights U_t_lines U_t_shades U_t_roofs U_t_ground U_t_next U_t_queue U_t_steps U_t_town_kinds U_t_town_awnings U_t_town_shuts U_t_town_water U_t_town_walkers U_t_town_places U_t_town_procession U_t_town_told U_t_town_awningLines U_t_town_shutLines U_t_town_waterLines t_casts_words_4 t_town_sunLines t_town_suns t_town_heights) pl 7 [some (.ref A_t), none, none, none] []
  refine a_iconst (pc := 7) C dX6_castShadows_7 kc_0 ?_
  refine s_istore_n (pc := 8) (i := 1) (lo' := [some (.ref A_t), some (.int 0), none, none]) C dX6_castShadows_8 rfl (by decide) rfl rfl ?_
  obtain ⟨n9, hw⟩ := hw
  refine m_X6_castShadows_L9 C hret (fun t_casts_words hw => ?_) n9 _ _ hw
  exact hret _ _ _ hw dX6_castShadows_84
theorem c_X6_castShadows {ka : KA} {l : Launch} {g : GG} {pl : Pool} (A_t A_t_casts A_t_casts_words A_t_town A_t_town_suns A_t_town_heights : Nat) (U_t_lines U_t_shades U_t_roofs U_t_ground U_t_next U_t_queue U_t_steps U_t_town_kinds U_t_town_awnings U_t_town_shuts U_t_town_water U_t_town_walkers U_t_town_places U_t_town_procession U_t_town_told U_t_town_awningLines U_t_town_shutLines U_t_town_waterLines : Value) {t_town_sunLines : Int32} {t_town_suns : Nat → Option Nat} {t_town_heights : Nat → Int32} {t_casts_words : Nat → Int64} {post : (Nat → Int64) → Prop} (hw : wp_X6_castShadows pl t_town_sunLines t_town_suns t_town_heights t_casts_words post) : MV l yX6_castShadows cX6_castShadows 4 (none : Option Jvm.ClassFile.FieldType) (rmL 3) g (FzC ka) [.ref A_t] (w_X6_castShadows g A_t A_t_casts A_t_casts_words A_t_town A_t_town_suns A_t_town_heights U_t_lines U_t_shades U_t_roofs U_t_ground U_t_next U_t_queue U_t_steps U_t_town_kinds U_t_town_awnings U_t_town_shuts U_t_town_water U_t_town_walkers U_t_town_places U_t_town_procession U_t_town_told U_t_town_awningLines U_t_town_shutLines U_t_town_waterLines t_casts_words t_town_sunLines t_town_suns t_town_heights) pl (fun (u : (Nat → Int64)) => post u) (fun u => (w_X6_castShadows g A_t A_t_casts A_t_casts_words A_t_town A_t_town_suns A_t_town_heights U_t_lines U_t_shades U_t_roofs U_t_ground U_t_next U_t_queue U_t_steps U_t_town_kinds U_t_town_awnings U_t_town_shuts U_t_town_water U_t_town_walkers U_t_town_places U_t_town_procession U_t_town_told U_t_town_awningLines U_t_town_shutLines U_t_town_waterLines u t_town_sunLines t_town_suns t_town_heights)) (fun _ => pl) 0 0 := by
  refine met_v (own := RX6) rfl rfl (Nat.le_of_ble_eq_true rfl) (fun X hg hl C hini hret => ?_)
  subst hg
  subst hl
  exact m_X6_castShadows C (fun w0 pc lo hp hd => hret w0 pc lo hp hd) hw
abbrev w_X6_findLines (g : GG) (A_t A_t_lines A_t_town A_t_town_suns : Nat) (U_t_shades U_t_casts U_t_roofs U_t_ground U_t_next U_t_queue U_t_steps U_t_town_kinds U_t_town_heights U_t_town_awnings U_t_town_shuts U_t_town_water U_t_town_walkers U_t_town_places U_t_town_procession U_t_town_told U_t_town_awningLines U_t_town_shutLines U_t_town_waterLines : Value) (t_lines : Nat → Int32) (t_town_sunLines : Int32) (t_town_suns : Nat → Option Nat) : va_W := [(A_t, ob 6 [.ref A_t_lines, U_t_shades, U_t_casts, U_t_roofs, U_t_ground, U_t_next, U_t_queue, U_t_steps, .ref A_t_town]), (A_t_lines, aI g 480 t_lines), (A_t_town, ob 8 [U_t_town_kinds, U_t_town_heights, U_t_town_awnings, U_t_town_shuts, U_t_town_water, .ref A_t_town_suns, U_t_town_walkers, U_t_town_places, U_t_town_procession, U_t_town_told, U_t_town_awningLines, U_t_town_shutLines, U_t_town_waterLines, .int t_town_sunLines]), (A_t_town_suns, aS g 24 t_town_suns)]
set_option maxRecDepth 20000 in
theorem m_X6_findLines_L10 {X : Ctx} {ka : KA} (C : Cok X cX6_findLines 3 RX6 (rmL 2) (FzC ka)) {pl : Pool} {A_t A_t_lines A_t_town A_t_town_suns : Nat} {U_t_shades U_t_casts U_t_roofs U_t_ground U_t_next U_t_queue U_t_steps U_t_town_kinds U_t_town_heights U_t_town_awnings U_t_town_shuts U_t_town_water U_t_town_walkers U_t_town_places U_t_town_procession U_t_town_told U_t_town_awningLines U_t_town_shutLines U_t_town_waterLines : Value} {t_town_sunLines : Int32} {t_town_suns : Nat → Option Nat} {post : (Nat → Int32) → Prop} (hret : ∀ (w0 : Nat → Int32) (pc : Nat) (lo : List (Option Value)), post w0 → decode cX6_findLines pc = .ok (.return_, 1) → AW X 3 0 0 (w_X6_findLines (cxG X) A_t A_t_lines A_t_town A_t_town_suns U_t_shades U_t_casts U_t_roofs U_t_ground U_t_next U_t_queue U_t_steps U_t_town_kinds U_t_town_heights U_t_town_awnings U_t_town_shuts U_t_town_water U_t_town_walkers U_t_town_places U_t_town_procession U_t_town_told U_t_town_awningLines U_t_town_shutLines U_t_town_waterLines w0 t_town_sunLines t_town_suns) pl pc lo []) {x_82 : (Nat → Int32) → Prop} (hx_82 : ∀ (t_lines : Nat → Int32) , x_82 t_lines → AW X 3 0 0 (w_X6_findLines (cxG X) A_t A_t_lines A_t_town A_t_town_suns U_t_shades U_t_casts U_t_roofs U_t_ground U_t_next U_t_queue U_t_steps U_t_town_kinds U_t_town_heights U_t_town_awnings U_t_town_shuts U_t_town_water U_t_town_walkers U_t_town_places U_t_town_procession U_t_town_told U_t_town_awningLines U_t_town_shutLines U_t_town_waterLines t_lines t_town_sunLines t_town_suns) pl 82 [none, none, none] []) : ∀ (n10 : Nat) (t_lines : Nat → Int32) (l1 : Int32) , lp (wp_X6_findLines_L10 pl x_82 t_town_sunLines t_town_suns post) n10 (t_lines, l1) → AW X 3 0 0 (w_X6_findLines (cxG X) A_t A_t_lines A_t_town A_t_town_suns U_t_shades U_t_casts U_t_roofs U_t_ground U_t_next U_t_queue U_t_steps U_t_town_kinds U_t_town_heights U_t_town_awnings U_t_town_shuts U_t_town_water U_t_town_walkers U_t_town_places U_t_town_procession U_t_town_told U_t_town_awningLines U_t_town_shutLines U_t_town_waterLines t_lines t_town_sunLines t_town_suns) pl 10 [some (.ref A_t), some (.int l1), none] [] := by
  intro n10
  induction n10 with
  | zero => exact fun _ _ hw => hw.elim
  | succ n10 hkb =>
    intro t_lines l1 hw
    replace hw : wp_X6_findLines_L10 pl x_82 t_town_sunLines t_town_suns post (lp (wp_X6_findLines_L10 pl x_82 t_town_sunLines t_town_suns post) n10) (t_lines, l1) := hw
    generalize lp (wp_X6_findLines_L10 pl x_82 t_town_sunLines t_town_suns post) n10 = kb at hw hkb
    refine a_iload_n (pc := 10) (i := 1) C dX6_findLines_10 rfl rfl ?_
    refine a_aload_n (pc := 11) (i := 0) C dX6_findLines_11 rfl rfl ?_
    refine a_get (pc := 12) C fl_X6_42 dX6_findLines_12 0 rfl rfl ?_
    refine a_get (pc := 15) C fl_X6_91 dX6_findLines_15 2 rfl rfl ?_
    refine a_icmp_ge (pc := 18) (tgt := 82) C dX6_findLines_18 (by decide) (fun c_18 => ?_) (fun c_18 => ?_)
    · replace hw := hw.1 c_18
      refine a_msk [false, false, true] rfl ?_
      exact hx_82 _ hw
    · replace hw := hw.2 c_18
      refine a_aload_n (pc := 21) (i := 0) C dX6_findLines_21 rfl rfl ?_
      refine a_get (pc := 22) C fl_X6_42 dX6_findLines_22 0 rfl rfl ?_
      refine a_iload_n (pc := 25) (i := 1) C dX6_findLines_25 rfl rfl ?_
      refine a_callVo (pc := 26) (As := [.int l1]) (st := []) (ws' := (fun _ => (w_X6_findLines (cxG X) A_t A_t_lines A_t_town A_t_town_suns U_t_shades U_t_casts U_t_roofs U_t_ground U_t_next U_t_queue U_t_steps U_t_town_kinds U_t_town_heights U_t_town_awnings U_t_town_shuts U_t_town_water U_t_town_walkers U_t_town_places U_t_town_procession U_t_town_told U_t_town_awningLines U_t_town_shutLines U_t_town_waterLines t_lines t_town_sunLines t_town_suns))) C (c_X8_sun A_t_town A_t_town_suns U_t_town_kinds U_t_town_heights U_t_town_awnings U_t_town_shuts U_t_town_water U_t_town_walkers U_t_town_places U_t_town_procession U_t_town_told U_t_town_awningLines U_t_town_shutLines U_t_town_waterLines hw) dX6_findLines_26 mth_X8_sun tml_X6_95 (fun _ _ h => trivial) Fz0_ok (rml (by decide) (by decide)) (Nat.le_of_ble_eq_true rfl) rfl rfl [2, 3] [0, 1] [0, 1, 2, 3] rfl rfl rfl rfl rfl rfl (ci := 8) rfl ⟨0, _, rfl⟩ (fun _ => rfl) rfl (fun _ => rfl) (fun r26 u hw => ?_)
      show AW X 3 0 0 (w_X6_findLines (cxG X) A_t A_t_lines A_t_town A_t_town_suns U_t_shades U_t_casts U_t_roofs U_t_ground U_t_next U_t_queue U_t_steps U_t_town_kinds U_t_town_heights U_t_town_awnings U_t_town_shuts U_t_town_water U_t_town_walkers U_t_town_places U_t_town_procession U_t_town_told U_t_town_awningLines U_t_town_shutLines U_t_town_waterLines t_lines t_town_sunLines t_town_suns) pl 29 [some (.ref A_t), some (.int l1), none] [va_rf r26]
      refine s_astore_nO (pc := 29) (i := 2) (lo' := [some (.ref A_t), some (.int l1), some (va_rf r26)]) C dX6_findLines_29 rfl (by decide) rfl rfl ?_
      refine a_aload_nO (pc := 30) (i := 2) C dX6_findLines_30 rfl rfl ?_
      refine a_ifnullO (pc := 31) (tgt := 76) C dX6_findLines_31 (by decide) (fun c_31 => ?_) (fun q31 c_31 => ?_)
      · replace hw := hw.1 c_31
        subst c_31
        refine a_inc (pc := 76) (i := 1) C (fun y => [some (.ref A_t), some (.int y), some (.null)]) dX6_findLines_76 rfl kc_1 (by decide) rfl (fun _ => rfl) (fun y76 e_y76 => ?_)
        replace hw := hw y76 e_y76
        refine a_goto (pc := 79) (tgt := 10) C dX6_findLines_79 (by decide) ?_
        refine a_msk [true, true, false] rfl ?_
        exact hkb _ _ hw
      · replace hw := hw.2 q31 c_31
        subst c_31
        refine a_aload_n (pc := 34) (i := 2) C dX6_findLines_34 rfl rfl ?_
        obtain ⟨o35_day, o35_minute, o35_direction, o35_over, o35_under, hp_o35, hw⟩ := hw
        refine a_getP (pc := 35) C fl_X6_99 dX6_findLines_35 hp_o35 rfl ?_
        refine a_aload_n (pc := 38) (i := 2) C dX6_findLines_38 rfl rfl ?_
        refine a_getP (pc := 39) C fl_X6_104 dX6_findLines_39 hp_o35 rfl ?_
        refine a_callSNi (pc := 42) (As := [.int o35_day, .int o35_minute]) (st := []) (ws' := (fun _ => (w_X6_findLines (cxG X) A_t A_t_lines A_t_town A_t_town_suns U_t_shades U_t_casts U_t_roofs U_t_ground U_t_next U_t_queue U_t_steps U_t_town_kinds U_t_town_heights U_t_town_awnings U_t_town_shuts U_t_town_water U_t_town_walkers U_t_town_places U_t_town_procession U_t_town_told U_t_town_awningLines U_t_town_shutLines U_t_town_waterLines t_lines t_town_sunLines t_town_suns))) C (c_X11_isTime hw) dX6_findLines_42 mth_X11_isTime nl_X6_107 (fun _ _ h => trivial) Fz0_ok (rml (by decide) (by decide)) (Nat.le_of_ble_eq_true rfl) rfl rfl [] [0, 1, 2, 3] [0, 1, 2, 3] rfl rfl rfl rfl rfl rfl (fun _ => rfl) rfl (fun _ => rfl) (fun r42 u hw => ?_)
        obtain ⟨z_42, hw⟩ := hw
        show AW X 3 0 0 (w_X6_findLines (cxG X) A_t A_t_lines A_t_town A_t_town_suns U_t_shades U_t_casts U_t_roofs U_t_ground U_t_next U_t_queue U_t_steps U_t_town_kinds U_t_town_heights U_t_town_awnings U_t_town_shuts U_t_town_water U_t_town_walkers U_t_town_places U_t_town_procession U_t_town_told U_t_town_awningLines U_t_town_shutLines U_t_town_waterLines t_lines t_town_sunLines t_town_suns) pl 45 [some (.ref A_t), some (.int l1), some (.ref q31)] [.int r42]
        refine a_if_eq (pc := 45) (tgt := 76) C dX6_findLines_45 (by decide) (fun c_45 => ?_) (fun c_45 => ?_)
        · replace hw := hw.1 c_45
          refine a_inc (pc := 76) (i := 1) C (fun y => [some (.ref A_t), some (.int y), some (.ref q31)]) dX6_findLines_76 rfl kc_1 (by decide) rfl (fun _ => rfl) (fun y76 e_y76 => ?_)
          replace hw := hw y76 e_y76
          refine a_goto (pc := 79) (tgt := 10) C dX6_findLines_79 (by decide) ?_
          refine a_msk [true, true, false] rfl ?_
          exact hkb _ _ hw
        · replace hw := hw.2 c_45
          refine a_aload_n (pc := 48) (i := 0) C dX6_findLines_48 rfl rfl ?_
          refine a_get (pc := 49) C fl_X6_9 dX6_findLines_49 0 rfl rfl ?_
          refine a_aload_n (pc := 52) (i := 2) C dX6_findLines_52 rfl rfl ?_
          refine a_getP (pc := 53) C fl_X6_99 dX6_findLines_53 hp_o35 rfl ?_
          refine a_aload_n (pc := 56) (i := 2) C dX6_findLines_56 rfl rfl ?_
          refine a_getP (pc := 57) C fl_X6_104 dX6_findLines_57 hp_o35 rfl ?_
          refine a_callSNi (pc := 60) (As := [.int o35_day, .int o35_minute]) (st := [.ref A_t_lines]) (ws' := (fun _ => (w_X6_findLines (cxG X) A_t A_t_lines A_t_town A_t_town_suns U_t_shades U_t_casts U_t_roofs U_t_ground U_t_next U_t_queue U_t_steps U_t_town_kinds U_t_town_heights U_t_town_awnings U_t_town_shuts U_t_town_water U_t_town_walkers U_t_town_places U_t_town_procession U_t_town_told U_t_town_awningLines U_t_town_shutLines U_t_town_waterLines t_lines t_town_sunLines t_town_suns))) C (c_X11_row hw) dX6_findLines_60 mth_X11_row nl_X6_111 (fun _ _ h => trivial) Fz0_ok (rml (by decide) (by decide)) (Nat.le_of_ble_eq_true rfl) rfl rfl [] [0, 1, 2, 3] [0, 1, 2, 3] rfl rfl rfl rfl rfl rfl (fun _ => rfl) rfl (fun _ => rfl) (fun r60 u hw => ?_)
          show AW X 3 0 0 (w_X6_findLines (cxG X) A_t A_t_lines A_t_town A_t_town_suns U_t_shades U_t_casts U_t_roofs U_t_ground U_t_next U_t_queue U_t_steps U_t_town_kinds U_t_town_heights U_t_town_awnings U_t_town_shuts U_t_town_water U_t_town_walkers U_t_town_places U_t_town_procession U_t_town_told U_t_town_awningLines U_t_town_shutLines U_t_town_waterLines t_lines t_town_sunLines t_town_suns) pl 63 [some (.ref A_t), some (.int l1), some (.ref q31)] [.int r60, .ref A_t_lines]
          refine a_aload_n (pc := 63) (i := 2) C dX6_findLines_63 rfl rfl ?_
          refine a_getP (pc := 64) C fl_X6_99 dX6_findLines_64 hp_o35 rfl ?_
          refine a_bipush (pc := 67) C dX6_findLines_67 kb_120 ?_
          refine a_callSNi (pc := 69) (As := [.int o35_day, .int 120]) (st := [.int r60, .ref A_t_lines]) (ws' := (fun _ => (w_X6_findLines (cxG X) A_t A_t_lines A_t_town A_t_town_suns U_t_shades U_t_casts U_t_roofs U_t_ground U_t_next U_t_queue U_t_steps U_t_town_kinds U_t_town_heights U_t_town_awnings U_t_town_shuts U_t_town_water U_t_town_walkers U_t_town_places U_t_town_procession U_t_town_told U_t_town_awningLines U_t_town_shutLines U_t_town_waterLines t_lines t_town_sunLines t_town_suns))) C (c_X11_row hw) dX6_findLines_69 mth_X11_row nl_X6_111 (fun _ _ h => trivial) Fz0_ok (rml (by decide) (by decide)) (Nat.le_of_ble_eq_true rfl) rfl rfl [] [0, 1, 2, 3] [0, 1, 2, 3] rfl rfl rfl rfl rfl rfl (fun _ => rfl) rfl (fun _ => rfl) (fun r69 u hw => ?_)
          show AW X 3 0 0 (w_X6_findLines (cxG X) A_t A_t_lines A_t_town A_t_town_suns U_t_shades U_t_casts U_t_roofs U_t_ground U_t_next U_t_queue U_t_steps U_t_town_kinds U_t_town_heights U_t_town_awnings U_t_town_shuts U_t_town_water U_t_town_walkers U_t_town_places U_t_town_procession U_t_town_told U_t_town_awningLines U_t_town_shutLines U_t_town_waterLines t_lines t_town_sunLines t_town_suns) pl 72 [some (.ref A_t), some (.int l1), some (.ref q31)] [.int r69, .int r60, .ref A_t_lines]
          refine a_iload_n (pc := 72) (i := 1) C dX6_findLines_72 rfl rfl ?_
          refine a_callSv (pc := 73) (As := [.ref A_t_lines, .int r60, .int r69, .int l1]) (st := []) (ws' := (fun u => (w_X6_findLines (cxG X) A_t A_t_lines A_t_town A_t_town_suns U_t_shades U_t_casts U_t_roofs U_t_ground U_t_next U_t_queue U_t_steps U_t_town_kinds U_t_town_heights U_t_town_awnings U_t_town_shuts U_t_town_water U_t_town_walkers U_t_town_places U_t_town_procession U_t_town_told U_t_town_awningLines U_t_town_shutLines U_t_town_waterLines u t_town_sunLines t_town_suns))) C (c_J7_fill_fda19 A_t_lines 480 hw) dX6_findLines_73 mth_J7_fill_fda19 tml_X6_115 (fun _ _ h => trivial) Fz0_ok (rml (by decide) (by decide)) (Nat.le_of_ble_eq_true rfl) rfl rfl [1] [0, 2, 3] [0, 3, 1, 2] rfl rfl rfl rfl rfl rfl (fun _ => rfl) rfl (fun _ => rfl) (fun u hw => ?_)
          obtain ⟨t_lines_73, rfl⟩ : ∃ z, z = u := ⟨_, rfl⟩
          show AW X 3 0 0 (w_X6_findLines (cxG X) A_t A_t_lines A_t_town A_t_town_suns U_t_shades U_t_casts U_t_roofs U_t_ground U_t_next U_t_queue U_t_steps U_t_town_kinds U_t_town_heights U_t_town_awnings U_t_town_shuts U_t_town_water U_t_town_walkers U_t_town_places U_t_town_procession U_t_town_told U_t_town_awningLines U_t_town_shutLines U_t_town_waterLines t_lines_73 t_town_sunLines t_town_suns) pl 76 [some (.ref A_t), some (.int l1), some (.ref q31)] []
          refine a_inc (pc := 76) (i := 1) C (fun y => [some (.ref A_t), some (.int y), some (.ref q31)]) dX6_findLines_76 rfl kc_1 (by decide) rfl (fun _ => rfl) (fun y76 e_y76 => ?_)
          replace hw := hw y76 e_y76
          refine a_goto (pc := 79) (tgt := 10) C dX6_findLines_79 (by decide) ?_
          refine a_msk [true, true, false] rfl ?_
          exact hkb _ _ hw
set_option maxRecDepth 20000 in
theorem m_X6_findLines {X : Ctx} {ka : KA} (C : Cok X cX6_findLines 3 RX6 (rmL 2) (FzC ka)) {pl : Pool} {A_t A_t_lines A_t_town A_t_town_suns : Nat} {U_t_shades U_t_casts U_t_roofs U_t_ground U_t_next U_t_queue U_t_steps U_t_town_kinds U_t_town_heights U_t_town_awnings U_t_town_shuts U_t_town_water U_t_town_walkers U_t_town_places U_t_town_procession U_t_town_told U_t_town_awningLines U_t_town_shutLines U_t_town_waterLines : Value} {t_town_sunLines : Int32} {t_town_suns : Nat → Option Nat} {t_lines : Nat → Int32} {post : (Nat → Int32) → Prop} (hret : ∀ (w0 : Nat → Int32) (pc : Nat) (lo : List (Option Value)), post w0 → decode cX6_findLines pc = .ok (.return_, 1) → AW X 3 0 0 (w_X6_findLines (cxG X) A_t A_t_lines A_t_town A_t_town_suns U_t_shades U_t_casts U_t_roofs U_t_ground U_t_next U_t_queue U_t_steps U_t_town_kinds U_t_town_heights U_t_town_awnings U_t_town_shuts U_t_town_water U_t_town_walkers U_t_town_places U_t_town_procession U_t_town_told U_t_town_awningLines U_t_town_shutLines U_t_town_waterLines w0 t_town_sunLines t_town_suns) pl pc lo []) (hw : wp_X6_findLines pl t_town_sunLines t_town_suns t_lines post) : AW X 3 0 0 (w_X6_findLines (cxG X) A_t A_t_lines A_t_town A_t_town_suns U_t_shades U_t_casts U_t_roofs U_t_ground U_t_next U_t_queue U_t_steps U_t_town_kinds U_t_town_heights U_t_town_awnings U_t_town_shuts U_t_town_water U_t_town_walkers U_t_town_places U_t_town_procession U_t_town_told U_t_town_awningLines U_t_town_shutLines U_t_town_waterLines t_lines t_town_sunLines t_town_suns) pl 0 [some (.ref A_t), none, none] [] := by
  replace hw : wp_J7_fill_53178 480 t_lines (-1) (fun t_lines_5 => ∃ n, lp (wp_X6_findLines_L10 pl (fun t_lines => post t_lines) t_town_sunLines t_town_suns post) n (t_lines_5, 0)) := hw
  refine a_aload_n (pc := 0) (i := 0) C dX6_findLines_0 rfl rfl ?_
  refine a_get (pc := 1) C fl_X6_9 dX6_findLines_1 0 rfl rfl ?_
  refine a_iconst (pc := 4) C dX6_findLines_4 kc_m1 ?_
  refine a_callSv (pc := 5) (As := [.ref A_t_lines, .int (-1)]) (st := []) (ws' := (fun u => (w_X6_findLines (cxG X) A_t A_t_lines A_t_town A_t_town_suns U_t_shades U_t_casts U_t_roofs U_t_ground U_t_next U_t_queue U_t_steps U_t_town_kinds U_t_town_heights U_t_town_awnings U_t_town_shuts U_t_town_water U_t_town_walkers U_t_town_places U_t_town_procession U_t_town_told U_t_town_awningLines U_t_town_shutLines U_t_town_waterLines u t_town_sunLines t_town_suns))) C (c_J7_fill_53178 A_t_lines 480 hw) dX6_findLines_5 mth_J7_fill_53178 tml_X6_85 (fun _ _ h => trivial) Fz0_ok (rml (by decide) (by decide)) (Nat.le_of_ble_eq_true rfl) rfl rfl [1] [0, 2, 3] [0, 3, 1, 2] rfl rfl rfl rfl rfl rfl (fun _ => rfl) rfl (fun _ => rfl) (fun u hw => ?_)
  obtain ⟨t_lines_5, rfl⟩ : ∃ z, z = u := ⟨_, rfl⟩
  show AW X 3 0 0 (w_X6_findLines (cxG X) A_t A_t_lines A_t_town A_t_town_suns U_t_shades U_t_casts U_t_roofs U_t_ground U_t_next U_t_queue U_t_steps U_t_town_kinds U_t_town_heights U_t_town_awnings U_t_town_shuts U_t_town_water U_t_town_walkers U_t_town_places U_t_town_procession U_t_town_told U_t_town_awningLines U_t_town_shutLines U_t_town_waterLines t_lines_5 t_town_sunLines t_town_suns) pl 8 [some (.ref A_t), none, none] []
  refine a_iconst (pc := 8) C dX6_findLines_8 kc_0 ?_
  refine s_istore_n (pc := 9) (i := 1) (lo' := [some (.ref A_t), some (.int 0), none]) C dX6_findLines_9 rfl (by decide) rfl rfl ?_
  obtain ⟨n10, hw⟩ := hw
  refine m_X6_findLines_L10 C hret (fun t_lines hw => ?_) n10 _ _ hw
  exact hret _ _ _ hw dX6_findLines_82
theorem c_X6_findLines {ka : KA} {l : Launch} {g : GG} {pl : Pool} (A_t A_t_lines A_t_town A_t_town_suns : Nat) (U_t_shades U_t_casts U_t_roofs U_t_ground U_t_next U_t_queue U_t_steps U_t_town_kinds U_t_town_heights U_t_town_awnings U_t_town_shuts U_t_town_water U_t_town_walkers U_t_town_places U_t_town_procession U_t_town_told U_t_town_awningLines U_t_town_shutLines U_t_town_waterLines : Value) {t_town_sunLines : Int32} {t_town_suns : Nat → Option Nat} {t_lines : Nat → Int32} {post : (Nat → Int32) → Prop} (hw : wp_X6_findLines pl t_town_sunLines t_town_suns t_lines post) : MV l yX6_findLines cX6_findLines 3 (none : Option Jvm.ClassFile.FieldType) (rmL 2) g (FzC ka) [.ref A_t] (w_X6_findLines g A_t A_t_lines A_t_town A_t_town_suns U_t_shades U_t_casts U_t_roofs U_t_ground U_t_next U_t_queue U_t_steps U_t_town_kinds U_t_town_heights U_t_town_awnings U_t_town_shuts U_t_town_water U_t_town_walkers U_t_town_places U_t_town_procession U_t_town_told U_t_town_awningLines U_t_town_shutLines U_t_town_waterLines t_lines t_town_sunLines t_town_suns) pl (fun (u : (Nat → Int32)) => post u) (fun u => (w_X6_findLines g A_t A_t_lines A_t_town A_t_town_suns U_t_shades U_t_casts U_t_roofs U_t_ground U_t_next U_t_queue U_t_steps U_t_town_kinds U_t_town_heights U_t_town_awnings U_t_town_shuts U_t_town_water U_t_town_walkers U_t_town_places U_t_town_procession U_t_town_told U_t_town_awningLines U_t_town_shutLines U_t_town_waterLines u t_town_sunLines t_town_suns)) (fun _ => pl) 0 0 := by
  refine met_v (own := RX6) rfl rfl (Nat.le_of_ble_eq_true rfl) (fun X hg hl C hini hret => ?_)
  subst hg
  subst hl
  exact m_X6_findLines C (fun w0 pc lo hp hd => hret w0 pc lo hp hd) hw
abbrev w_X6_layGround (g : GG) (A_t A_t_roofs A_t_roofs_words A_t_ground A_t_ground_words A_t_town A_t_town_kinds A_t_next : Nat) (U_t_lines U_t_shades U_t_casts U_t_queue U_t_steps U_t_town_heights U_t_town_awnings U_t_town_shuts U_t_town_water U_t_town_suns U_t_town_walkers U_t_town_places U_t_town_procession U_t_town_told U_t_town_awningLines U_t_town_shutLines U_t_town_waterLines U_t_town_sunLines : Value) (t_roofs_words : Nat → Int64) (t_ground_words : Nat → Int64) (t_town_kinds : Nat → Int32) (t_next : Nat → Int32) : va_W := [(A_t, ob 6 [U_t_lines, U_t_shades, U_t_casts, .ref A_t_roofs, .ref A_t_ground, .ref A_t_next, U_t_queue, U_t_steps, .ref A_t_town]), (A_t_roofs, ob 5 [.ref A_t_roofs_words]), (A_t_roofs_words, aJ g 2 t_roofs_words), (A_t_ground, ob 5 [.ref A_t_ground_words]), (A_t_ground_words, aJ g 2 t_ground_words), (A_t_town, ob 8 [.ref A_t_town_kinds, U_t_town_heights, U_t_town_awnings, U_t_town_shuts, U_t_town_water, U_t_town_suns, U_t_town_walkers, U_t_town_places, U_t_town_procession, U_t_town_told, U_t_town_awningLines, U_t_town_shutLines, U_t_town_waterLines, U_t_town_sunLines]), (A_t_town_kinds, aI g 100 t_town_kinds), (A_t_next, aI g 400 t_next)]
set_option maxRecDepth 20000 in
theorem m_X6_layGround_L64 {X : Ctx} {ka : KA} (C : Cok X cX6_layGround 4 RX6 (rmL 2) (FzC ka)) {pl : Pool} {A_t A_t_roofs A_t_roofs_words A_t_ground A_t_ground_words A_t_town A_t_town_kinds A_t_next : Nat} {U_t_lines U_t_shades U_t_casts U_t_queue U_t_steps U_t_town_heights U_t_town_awnings U_t_town_shuts U_t_town_water U_t_town_suns U_t_town_walkers U_t_town_places U_t_town_procession U_t_town_told U_t_town_awningLines U_t_town_shutLines U_t_town_waterLines U_t_town_sunLines : Value} {t_town_kinds : Nat → Int32} {post : (Nat → Int64) → (Nat → Int64) → (Nat → Int32) → Prop} (hret : ∀ (w0 : Nat → Int64) (w1 : Nat → Int64) (w2 : Nat → Int32) (pc : Nat) (lo : List (Option Value)), post w0 w1 w2 → decode cX6_layGround pc = .ok (.return_, 1) → AW X 4 0 0 (w_X6_layGround (cxG X) A_t A_t_roofs A_t_roofs_words A_t_ground A_t_ground_words A_t_town A_t_town_kinds A_t_next U_t_lines U_t_shades U_t_casts U_t_queue U_t_steps U_t_town_heights U_t_town_awnings U_t_town_shuts U_t_town_water U_t_town_suns U_t_town_walkers U_t_town_places U_t_town_procession U_t_town_told U_t_town_awningLines U_t_town_shutLines U_t_town_waterLines U_t_town_sunLines w0 w1 t_town_kinds w2) pl pc lo []) {x_110 : (Nat → Int64) → (Nat → Int64) → (Nat → Int32) → Int32 → Prop} (hx_110 : ∀ (t_roofs_words : Nat → Int64) (t_ground_words : Nat → Int64) (t_next : Nat → Int32) (l1 : Int32) , x_110 t_roofs_words t_ground_words t_next l1 → AW X 4 0 0 (w_X6_layGround (cxG X) A_t A_t_roofs A_t_roofs_words A_t_ground A_t_ground_words A_t_town A_t_town_kinds A_t_next U_t_lines U_t_shades U_t_casts U_t_queue U_t_steps U_t_town_heights U_t_town_awnings U_t_town_shuts U_t_town_water U_t_town_suns U_t_town_walkers U_t_town_places U_t_town_procession U_t_town_told U_t_town_awningLines U_t_town_shutLines U_t_town_waterLines U_t_town_sunLines t_roofs_words t_ground_words t_town_kinds t_next) pl 110 [some (.ref A_t), some (.int l1), none, none] []) : ∀ (n64 : Nat) (t_roofs_words : Nat → Int64) (t_ground_words : Nat → Int64) (t_next : Nat → Int32) (l1 : Int32) (l2 : Int32) , lp (wp_X6_layGround_L64 x_110 t_town_kinds post) n64 (t_roofs_words, t_ground_words, t_next, l1, l2) → AW X 4 0 0 (w_X6_layGround (cxG X) A_t A_t_roofs A_t_roofs_words A_t_ground A_t_ground_words A_t_town A_t_town_kinds A_t_next U_t_lines U_t_shades U_t_casts U_t_queue U_t_steps U_t_town_heights U_t_town_awnings U_t_town_shuts U_t_town_water U_t_town_suns U_t_town_walkers U_t_town_places U_t_town_procession U_t_town_told U_t_town_awningLines U_t_town_shutLines U_t_town_waterLines U_t_town_sunLines t_roofs_words t_ground_words t_town_kinds t_next) pl 64 [some (.ref A_t), some (.int l1), some (.int l2), none] [] := by
  intro n64
  induction n64 with
  | zero => exact fun _ _ _ _ _ hw => hw.elim
  | succ n64 hkb =>
    intro t_roofs_words t_ground_words t_next l1 l2 hw
    replace hw : wp_X6_layGround_L64 x_110 t_town_kinds post (lp (wp_X6_layGround_L64 x_110 t_town_kinds post) n64) (t_roofs_words, t_ground_words, t_next, l1, l2) := hw
    generalize lp (wp_X6_layGround_L64 x_110 t_town_kinds post) n64 = kb at hw hkb
    refine a_iload_n (pc := 64) (i := 2) C dX6_layGround_64 rfl rfl ?_
    refine a_iconst (pc := 65) C dX6_layGround_65 kc_4 ?_
    refine a_icmp_ge (pc := 66) (tgt := 110) C dX6_layGround_66 (by decide) (fun c_66 => ?_) (fun c_66 => ?_)
    · replace hw := hw.1 c_66
      refine a_msk [true, true, false, true] rfl ?_
      exact hx_110 _ _ _ _ hw
    · replace hw := hw.2 c_66
      refine a_iload_n (pc := 69) (i := 1) C dX6_layGround_69 rfl rfl ?_
      refine a_iconst (pc := 70) C dX6_layGround_70 kc_2 ?_
      refine a_iload_n (pc := 71) (i := 2) C dX6_layGround_71 rfl rfl ?_
      refine a_imul (pc := 72) C dX6_layGround_72 ?_
      refine a_iconst (pc := 73) C dX6_layGround_73 kc_1 ?_
      refine a_callSNi (pc := 74) (As := [.int l1, .int (2 * l2), .int 1]) (st := []) (ws' := (fun _ => (w_X6_layGround (cxG X) A_t A_t_roofs A_t_roofs_words A_t_ground A_t_ground_words A_t_town A_t_town_kinds A_t_next U_t_lines U_t_shades U_t_casts U_t_queue U_t_steps U_t_town_heights U_t_town_awnings U_t_town_shuts U_t_town_water U_t_town_suns U_t_town_walkers U_t_town_places U_t_town_procession U_t_town_told U_t_town_awningLines U_t_town_shutLines U_t_town_waterLines U_t_town_sunLines t_roofs_words t_ground_words t_town_kinds t_next))) C (c_X11_away hw) dX6_layGround_74 mth_X11_away nl_X6_81 (fun _ _ h => h) (FzC_ok ka) (rml (by decide) (by decide)) (Nat.le_of_ble_eq_true rfl) rfl rfl [] [0, 1, 2, 3, 4, 5, 6, 7] [0, 1, 2, 3, 4, 5, 6, 7] rfl rfl rfl rfl rfl rfl (fun _ => rfl) rfl (fun _ => rfl) (fun r74 u hw => ?_)
      show AW X 4 0 0 (w_X6_layGround (cxG X) A_t A_t_roofs A_t_roofs_words A_t_ground A_t_ground_words A_t_town A_t_town_kinds A_t_next U_t_lines U_t_shades U_t_casts U_t_queue U_t_steps U_t_town_heights U_t_town_awnings U_t_town_shuts U_t_town_water U_t_town_suns U_t_town_walkers U_t_town_places U_t_town_procession U_t_town_told U_t_town_awningLines U_t_town_shutLines U_t_town_waterLines U_t_town_sunLines t_roofs_words t_ground_words t_town_kinds t_next) pl 77 [some (.ref A_t), some (.int l1), some (.int l2), none] [.int r74]
      refine s_istore_n (pc := 77) (i := 3) (lo' := [some (.ref A_t), some (.int l1), some (.int l2), some (.int r74)]) C dX6_layGround_77 rfl (by decide) rfl rfl ?_
      refine a_aload_n (pc := 78) (i := 0) C dX6_layGround_78 rfl rfl ?_
      refine a_get (pc := 79) C fl_X6_33 dX6_layGround_79 0 rfl rfl ?_
      refine a_iconst (pc := 82) C dX6_layGround_82 kc_4 ?_
      refine a_iload_n (pc := 83) (i := 1) C dX6_layGround_83 rfl rfl ?_
      refine a_imul (pc := 84) C dX6_layGround_84 ?_
      refine a_iload_n (pc := 85) (i := 2) C dX6_layGround_85 rfl rfl ?_
      refine a_iadd (pc := 86) C dX6_layGround_86 ?_
      refine a_aload_n (pc := 87) (i := 0) C dX6_layGround_87 rfl rfl ?_
      refine a_get (pc := 88) C fl_X6_42 dX6_layGround_88 0 rfl rfl ?_
      refine a_iload_n (pc := 91) (i := 3) C dX6_layGround_91 rfl rfl ?_
      refine a_callVi (pc := 92) (As := [.int r74]) (st := [.int ((4 * l1) + l2), .ref A_t_next]) (ws' := (fun _ => (w_X6_layGround (cxG X) A_t A_t_roofs A_t_roofs_words A_t_ground A_t_ground_words A_t_town A_t_town_kinds A_t_next U_t_lines U_t_shades U_t_casts U_t_queue U_t_steps U_t_town_heights U_t_town_awnings U_t_town_shuts U_t_town_water U_t_town_suns U_t_town_walkers U_t_town_places U_t_town_procession U_t_town_told U_t_town_awningLines U_t_town_shutLines U_t_town_waterLines U_t_town_sunLines t_roofs_words t_ground_words t_town_kinds t_next))) C (c_X8_isOpen A_t_town A_t_town_kinds U_t_town_heights U_t_town_awnings U_t_town_shuts U_t_town_water U_t_town_suns U_t_town_walkers U_t_town_places U_t_town_procession U_t_town_told U_t_town_awningLines U_t_town_shutLines U_t_town_waterLines U_t_town_sunLines hw) dX6_layGround_92 mth_X8_isOpen tml_X6_70 (fun _ _ h => h) (FzC_ok ka) (rml (by decide) (by decide)) (Nat.le_of_ble_eq_true rfl) rfl rfl [5, 6] [0, 1, 2, 3, 4, 7] [0, 1, 2, 3, 4, 6, 7, 5] rfl rfl rfl rfl rfl rfl (ci := 8) rfl ⟨0, _, rfl⟩ (fun _ => rfl) rfl (fun _ => rfl) (fun r92 u hw => ?_)
      obtain ⟨z_92, hw⟩ := hw
      show AW X 4 0 0 (w_X6_layGround (cxG X) A_t A_t_roofs A_t_roofs_words A_t_ground A_t_ground_words A_t_town A_t_town_kinds A_t_next U_t_lines U_t_shades U_t_casts U_t_queue U_t_steps U_t_town_heights U_t_town_awnings U_t_town_shuts U_t_town_water U_t_town_suns U_t_town_walkers U_t_town_places U_t_town_procession U_t_town_told U_t_town_awningLines U_t_town_shutLines U_t_town_waterLines U_t_town_sunLines t_roofs_words t_ground_words t_town_kinds t_next) pl 95 [some (.ref A_t), some (.int l1), some (.int l2), some (.int r74)] [.int r92, .int ((4 * l1) + l2), .ref A_t_next]
      refine a_if_eq (pc := 95) (tgt := 102) C dX6_layGround_95 (by decide) (fun c_95 => ?_) (fun c_95 => ?_)
      · replace hw := hw.1 c_95
        refine a_iconst (pc := 102) C dX6_layGround_102 kc_m1 ?_
        refine a_top2i (fun x103 e_x103 => ?_)
        replace hw := hw x103 e_x103
        obtain ⟨i_103, hw⟩ := hw
        refine a_iastW (pc := 103) C (fun h => (w_X6_layGround (cxG X) A_t A_t_roofs A_t_roofs_words A_t_ground A_t_ground_words A_t_town A_t_town_kinds A_t_next U_t_lines U_t_shades U_t_casts U_t_queue U_t_steps U_t_town_heights U_t_town_awnings U_t_town_shuts U_t_town_water U_t_town_suns U_t_town_walkers U_t_town_places U_t_town_procession U_t_town_told U_t_town_awningLines U_t_town_shutLines U_t_town_waterLines U_t_town_sunLines t_roofs_words t_ground_words t_town_kinds h)) dX6_layGround_103 7 rfl i_103 (fun _ => rfl) (fun t_next_103 e_t_next_103 => ?_)
        replace hw := hw t_next_103 e_t_next_103
        refine a_inc (pc := 104) (i := 2) C (fun y => [some (.ref A_t), some (.int l1), some (.int y), some (.int r74)]) dX6_layGround_104 rfl kc_1 (by decide) rfl (fun _ => rfl) (fun y104 e_y104 => ?_)
        replace hw := hw y104 e_y104
        refine a_goto (pc := 107) (tgt := 64) C dX6_layGround_107 (by decide) ?_
        refine a_msk [true, true, true, false] rfl ?_
        exact hkb _ _ _ _ _ hw
      · replace hw := hw.2 c_95
        refine a_iload_n (pc := 98) (i := 3) C dX6_layGround_98 rfl rfl ?_
        refine a_goto (pc := 99) (tgt := 103) C dX6_layGround_99 (by decide) ?_
        refine a_top2i (fun x103 e_x103 => ?_)
        replace hw := hw x103 e_x103
        obtain ⟨i_103, hw⟩ := hw
        refine a_iastW (pc := 103) C (fun h => (w_X6_layGround (cxG X) A_t A_t_roofs A_t_roofs_words A_t_ground A_t_ground_words A_t_town A_t_town_kinds A_t_next U_t_lines U_t_shades U_t_casts U_t_queue U_t_steps U_t_town_heights U_t_town_awnings U_t_town_shuts U_t_town_water U_t_town_suns U_t_town_walkers U_t_town_places U_t_town_procession U_t_town_told U_t_town_awningLines U_t_town_shutLines U_t_town_waterLines U_t_town_sunLines t_roofs_words t_ground_words t_town_kinds h)) dX6_layGround_103 7 rfl i_103 (fun _ => rfl) (fun t_next_103 e_t_next_103 => ?_)
        replace hw := hw t_next_103 e_t_next_103
        refine a_inc (pc := 104) (i := 2) C (fun y => [some (.ref A_t), some (.int l1), some (.int y), some (.int r74)]) dX6_layGround_104 rfl kc_1 (by decide) rfl (fun _ => rfl) (fun y104 e_y104 => ?_)
        replace hw := hw y104 e_y104
        refine a_goto (pc := 107) (tgt := 64) C dX6_layGround_107 (by decide) ?_
        refine a_msk [true, true, true, false] rfl ?_
        exact hkb _ _ _ _ _ hw
set_option maxRecDepth 20000 in
theorem m_X6_layGround_L16 {X : Ctx} {ka : KA} (C : Cok X cX6_layGround 4 RX6 (rmL 2) (FzC ka)) {pl : Pool} {A_t A_t_roofs A_t_roofs_words A_t_ground A_t_ground_words A_t_town A_t_town_kinds A_t_next : Nat} {U_t_lines U_t_shades U_t_casts U_t_queue U_t_steps U_t_town_heights U_t_town_awnings U_t_town_shuts U_t_town_water U_t_town_suns U_t_town_walkers U_t_town_places U_t_town_procession U_t_town_told U_t_town_awningLines U_t_town_shutLines U_t_town_waterLines U_t_town_sunLines : Value} {t_town_kinds : Nat → Int32} {post : (Nat → Int64) → (Nat → Int64) → (Nat → Int32) → Prop} (hret : ∀ (w0 : Nat → Int64) (w1 : Nat → Int64) (w2 : Nat → Int32) (pc : Nat) (lo : List (Option Value)), post w0 w1 w2 → decode cX6_layGround pc = .ok (.return_, 1) → AW X 4 0 0 (w_X6_layGround (cxG X) A_t A_t_roofs A_t_roofs_words A_t_ground A_t_ground_words A_t_town A_t_town_kinds A_t_next U_t_lines U_t_shades U_t_casts U_t_queue U_t_steps U_t_town_heights U_t_town_awnings U_t_town_shuts U_t_town_water U_t_town_suns U_t_town_walkers U_t_town_places U_t_town_procession U_t_town_told U_t_town_awningLines U_t_town_shutLines U_t_town_waterLines U_t_town_sunLines w0 w1 t_town_kinds w2) pl pc lo []) {x_116 : (Nat → Int64) → (Nat → Int64) → (Nat → Int32) → Prop} (hx_116 : ∀ (t_roofs_words : Nat → Int64) (t_ground_words : Nat → Int64) (t_next : Nat → Int32) , x_116 t_roofs_words t_ground_words t_next → AW X 4 0 0 (w_X6_layGround (cxG X) A_t A_t_roofs A_t_roofs_words A_t_ground A_t_ground_words A_t_town A_t_town_kinds A_t_next U_t_lines U_t_shades U_t_casts U_t_queue U_t_steps U_t_town_heights U_t_town_awnings U_t_town_shuts U_t_town_water U_t_town_suns U_t_town_walkers U_t_town_places U_t_town_procession U_t_town_told U_t_town_awningLines U_t_town_shutLines U_t_town_waterLines U_t_town_sunLines t_roofs_words t_ground_words t_town_kinds t_next) pl 116 [none, none, none, none] []) : ∀ (n16 : Nat) (t_roofs_words : Nat → Int64) (t_ground_words : Nat → Int64) (t_next : Nat → Int32) (l1 : Int32) , lp (wp_X6_layGround_L16 x_116 t_town_kinds post) n16 (t_roofs_words, t_ground_words, t_next, l1) → AW X 4 0 0 (w_X6_layGround (cxG X) A_t A_t_roofs A_t_roofs_words A_t_ground A_t_ground_words A_t_town A_t_town_kinds A_t_next U_t_lines U_t_shades U_t_casts U_t_queue U_t_steps U_t_town_heights U_t_town_awnings U_t_town_shuts U_t_town_water U_t_town_suns U_t_town_walkers U_t_town_places U_t_town_procession U_t_town_told U_t_town_awningLines U_t_town_shutLines U_t_town_waterLines U_t_town_sunLines t_roofs_words t_ground_words t_town_kinds t_next) pl 16 [some (.ref A_t), some (.int l1), none, none] [] := by
  intro n16
  induction n16 with
  | zero => exact fun _ _ _ _ hw => hw.elim
  | succ n16 hkb =>
    intro t_roofs_words t_ground_words t_next l1 hw
    replace hw : wp_X6_layGround_L16 x_116 t_town_kinds post (lp (wp_X6_layGround_L16 x_116 t_town_kinds post) n16) (t_roofs_words, t_ground_words, t_next, l1) := hw
    generalize lp (wp_X6_layGround_L16 x_116 t_town_kinds post) n16 = kb at hw hkb
    refine a_iload_n (pc := 16) (i := 1) C dX6_layGround_16 rfl rfl ?_
    refine a_bipush (pc := 17) C dX6_layGround_17 kb_100 ?_
    refine a_icmp_ge (pc := 19) (tgt := 116) C dX6_layGround_19 (by decide) (fun c_19 => ?_) (fun c_19 => ?_)
    · replace hw := hw.1 c_19
      refine a_msk [false, false, true, true] rfl ?_
      exact hx_116 _ _ _ hw
    · replace hw := hw.2 c_19
      refine a_aload_n (pc := 22) (i := 0) C dX6_layGround_22 rfl rfl ?_
      refine a_get (pc := 23) C fl_X6_42 dX6_layGround_23 0 rfl rfl ?_
      refine a_iload_n (pc := 26) (i := 1) C dX6_layGround_26 rfl rfl ?_
      refine a_callVi (pc := 27) (As := [.int l1]) (st := []) (ws' := (fun _ => (w_X6_layGround (cxG X) A_t A_t_roofs A_t_roofs_words A_t_ground A_t_ground_words A_t_town A_t_town_kinds A_t_next U_t_lines U_t_shades U_t_casts U_t_queue U_t_steps U_t_town_heights U_t_town_awnings U_t_town_shuts U_t_town_water U_t_town_suns U_t_town_walkers U_t_town_places U_t_town_procession U_t_town_told U_t_town_awningLines U_t_town_shutLines U_t_town_waterLines U_t_town_sunLines t_roofs_words t_ground_words t_town_kinds t_next))) C (c_X8_isOpen A_t_town A_t_town_kinds U_t_town_heights U_t_town_awnings U_t_town_shuts U_t_town_water U_t_town_suns U_t_town_walkers U_t_town_places U_t_town_procession U_t_town_told U_t_town_awningLines U_t_town_shutLines U_t_town_waterLines U_t_town_sunLines hw) dX6_layGround_27 mth_X8_isOpen tml_X6_70 (fun _ _ h => h) (FzC_ok ka) (rml (by decide) (by decide)) (Nat.le_of_ble_eq_true rfl) rfl rfl [5, 6] [0, 1, 2, 3, 4, 7] [0, 1, 2, 3, 4, 6, 7, 5] rfl rfl rfl rfl rfl rfl (ci := 8) rfl ⟨0, _, rfl⟩ (fun _ => rfl) rfl (fun _ => rfl) (fun r27 u hw => ?_)
      obtain ⟨z_27, hw⟩ := hw
      show AW X 4 0 0 (w_X6_layGround (cxG X) A_t A_t_roofs A_t_roofs_words A_t_ground A_t_ground_words A_t_town A_t_town_kinds A_t_next U_t_lines U_t_shades U_t_casts U_t_queue U_t_steps U_t_town_heights U_t_town_awnings U_t_town_shuts U_t_town_water U_t_town_suns U_t_town_walkers U_t_town_places U_t_town_procession U_t_town_told U_t_town_awningLines U_t_town_shutLines U_t_town_waterLines U_t_town_sunLines t_roofs_words t_ground_words t_town_kinds t_next) pl 30 [some (.ref A_t), some (.int l1), none, none] [.int r27]
      refine a_if_eq (pc := 30) (tgt := 62) C dX6_layGround_30 (by decide) (fun c_30 => ?_) (fun c_30 => ?_)
      · replace hw := hw.1 c_30
        refine a_iconst (pc := 62) C dX6_layGround_62 kc_0 ?_
        refine s_istore_n (pc := 63) (i := 2) (lo' := [some (.ref A_t), some (.int l1), some (.int 0), none]) C dX6_layGround_63 rfl (by decide) rfl rfl ?_
        obtain ⟨n64, hw⟩ := hw
        refine m_X6_layGround_L64 C hret (fun t_roofs_words t_ground_words t_next l1 hw => ?_) n64 _ _ _ _ _ hw
        refine a_inc (pc := 110) (i := 1) C (fun y => [some (.ref A_t), some (.int y), none, none]) dX6_layGround_110 rfl kc_1 (by decide) rfl (fun _ => rfl) (fun y110 e_y110 => ?_)
        replace hw := hw y110 e_y110
        refine a_goto (pc := 113) (tgt := 16) C dX6_layGround_113 (by decide) ?_
        exact hkb _ _ _ _ hw
      · replace hw := hw.2 c_30
        refine a_aload_n (pc := 33) (i := 0) C dX6_layGround_33 rfl rfl ?_
        refine a_get (pc := 34) C fl_X6_30 dX6_layGround_34 0 rfl rfl ?_
        refine a_iconst (pc := 37) C dX6_layGround_37 kc_0 ?_
        refine a_iload_n (pc := 38) (i := 1) C dX6_layGround_38 rfl rfl ?_
        refine a_callVv (pc := 39) (As := [.int 0, .int l1]) (st := []) (ws' := (fun u => (w_X6_layGround (cxG X) A_t A_t_roofs A_t_roofs_words A_t_ground A_t_ground_words A_t_town A_t_town_kinds A_t_next U_t_lines U_t_shades U_t_casts U_t_queue U_t_steps U_t_town_heights U_t_town_awnings U_t_town_shuts U_t_town_water U_t_town_suns U_t_town_walkers U_t_town_places U_t_town_procession U_t_town_told U_t_town_awningLines U_t_town_shutLines U_t_town_waterLines U_t_town_sunLines t_roofs_words u t_town_kinds t_next))) C (c_X5_put A_t_ground A_t_ground_words 2 hw) dX6_layGround_39 mth_X5_put tml_X6_74 (fun _ _ h => trivial) Fz0_ok (rml (by decide) (by decide)) (Nat.le_of_ble_eq_true rfl) rfl rfl [3, 4] [0, 1, 2, 5, 6, 7] [0, 1, 2, 6, 7, 3, 4, 5] rfl rfl rfl rfl rfl rfl (ci := 5) rfl ⟨0, _, rfl⟩ (fun _ => rfl) rfl (fun _ => rfl) (fun u hw => ?_)
        obtain ⟨t_ground_words_39, rfl⟩ : ∃ z, z = u := ⟨_, rfl⟩
        show AW X 4 0 0 (w_X6_layGround (cxG X) A_t A_t_roofs A_t_roofs_words A_t_ground A_t_ground_words A_t_town A_t_town_kinds A_t_next U_t_lines U_t_shades U_t_casts U_t_queue U_t_steps U_t_town_heights U_t_town_awnings U_t_town_shuts U_t_town_water U_t_town_suns U_t_town_walkers U_t_town_places U_t_town_procession U_t_town_told U_t_town_awningLines U_t_town_shutLines U_t_town_waterLines U_t_town_sunLines t_roofs_words t_ground_words_39 t_town_kinds t_next) pl 42 [some (.ref A_t), some (.int l1), none, none] []
        refine a_aload_n (pc := 42) (i := 0) C dX6_layGround_42 rfl rfl ?_
        refine a_get (pc := 43) C fl_X6_42 dX6_layGround_43 0 rfl rfl ?_
        refine a_iload_n (pc := 46) (i := 1) C dX6_layGround_46 rfl rfl ?_
        refine a_callVi (pc := 47) (As := [.int l1]) (st := []) (ws' := (fun _ => (w_X6_layGround (cxG X) A_t A_t_roofs A_t_roofs_words A_t_ground A_t_ground_words A_t_town A_t_town_kinds A_t_next U_t_lines U_t_shades U_t_casts U_t_queue U_t_steps U_t_town_heights U_t_town_awnings U_t_town_shuts U_t_town_water U_t_town_suns U_t_town_walkers U_t_town_places U_t_town_procession U_t_town_told U_t_town_awningLines U_t_town_shutLines U_t_town_waterLines U_t_town_sunLines t_roofs_words t_ground_words_39 t_town_kinds t_next))) C (c_X8_isBare A_t_town A_t_town_kinds U_t_town_heights U_t_town_awnings U_t_town_shuts U_t_town_water U_t_town_suns U_t_town_walkers U_t_town_places U_t_town_procession U_t_town_told U_t_town_awningLines U_t_town_shutLines U_t_town_waterLines U_t_town_sunLines hw) dX6_layGround_47 mth_X8_isBare tml_X6_78 (fun _ _ h => h) (FzC_ok ka) (rml (by decide) (by decide)) (Nat.le_of_ble_eq_true rfl) rfl rfl [5, 6] [0, 1, 2, 3, 4, 7] [0, 1, 2, 3, 4, 6, 7, 5] rfl rfl rfl rfl rfl rfl (ci := 8) rfl ⟨0, _, rfl⟩ (fun _ => rfl) rfl (fun _ => rfl) (fun r47 u hw => ?_)
        obtain ⟨z_47, hw⟩ := hw
        show AW X 4 0 0 (w_X6_layGround (cxG X) A_t A_t_roofs A_t_roofs_words A_t_ground A_t_ground_words A_t_town A_t_town_kinds A_t_next U_t_lines U_t_shades U_t_casts U_t_queue U_t_steps U_t_town_heights U_t_town_awnings U_t_town_shuts U_t_town_water U_t_town_suns U_t_town_walkers U_t_town_places U_t_town_procession U_t_town_told U_t_town_awningLines U_t_town_shutLines U_t_town_waterLines U_t_town_sunLines t_roofs_words t_ground_words_39 t_town_kinds t_next) pl 50 [some (.ref A_t), some (.int l1), none, none] [.int r47]
        refine a_if_ne (pc := 50) (tgt := 62) C dX6_layGround_50 (by decide) (fun c_50 => ?_) (fun c_50 => ?_)
        · replace hw := hw.1 c_50
          refine a_iconst (pc := 62) C dX6_layGround_62 kc_0 ?_
          refine s_istore_n (pc := 63) (i := 2) (lo' := [some (.ref A_t), some (.int l1), some (.int 0), none]) C dX6_layGround_63 rfl (by decide) rfl rfl ?_
          obtain ⟨n64, hw⟩ := hw
          refine m_X6_layGround_L64 C hret (fun t_roofs_words t_ground_words t_next l1 hw => ?_) n64 _ _ _ _ _ hw
          refine a_inc (pc := 110) (i := 1) C (fun y => [some (.ref A_t), some (.int y), none, none]) dX6_layGround_110 rfl kc_1 (by decide) rfl (fun _ => rfl) (fun y110 e_y110 => ?_)
          replace hw := hw y110 e_y110
          refine a_goto (pc := 113) (tgt := 16) C dX6_layGround_113 (by decide) ?_
          exact hkb _ _ _ _ hw
        · replace hw := hw.2 c_50
          refine a_aload_n (pc := 53) (i := 0) C dX6_layGround_53 rfl rfl ?_
          refine a_get (pc := 54) C fl_X6_27 dX6_layGround_54 0 rfl rfl ?_
          refine a_iconst (pc := 57) C dX6_layGround_57 kc_0 ?_
          refine a_iload_n (pc := 58) (i := 1) C dX6_layGround_58 rfl rfl ?_
          refine a_callVv (pc := 59) (As := [.int 0, .int l1]) (st := []) (ws' := (fun u => (w_X6_layGround (cxG X) A_t A_t_roofs A_t_roofs_words A_t_ground A_t_ground_words A_t_town A_t_town_kinds A_t_next U_t_lines U_t_shades U_t_casts U_t_queue U_t_steps U_t_town_heights U_t_town_awnings U_t_town_shuts U_t_town_water U_t_town_suns U_t_town_walkers U_t_town_places U_t_town_procession U_t_town_told U_t_town_awningLines U_t_town_shutLines U_t_town_waterLines U_t_town_sunLines u t_ground_words_39 t_town_kinds t_next))) C (c_X5_put A_t_roofs A_t_roofs_words 2 hw) dX6_layGround_59 mth_X5_put tml_X6_74 (fun _ _ h => trivial) Fz0_ok (rml (by decide) (by decide)) (Nat.le_of_ble_eq_true rfl) rfl rfl [1, 2] [0, 3, 4, 5, 6, 7] [0, 6, 7, 1, 2, 3, 4, 5] rfl rfl rfl rfl rfl rfl (ci := 5) rfl ⟨0, _, rfl⟩ (fun _ => rfl) rfl (fun _ => rfl) (fun u hw => ?_)
          obtain ⟨t_roofs_words_59, rfl⟩ : ∃ z, z = u := ⟨_, rfl⟩
          show AW X 4 0 0 (w_X6_layGround (cxG X) A_t A_t_roofs A_t_roofs_words A_t_ground A_t_ground_words A_t_town A_t_town_kinds A_t_next U_t_lines U_t_shades U_t_casts U_t_queue U_t_steps U_t_town_heights U_t_town_awnings U_t_town_shuts U_t_town_water U_t_town_suns U_t_town_walkers U_t_town_places U_t_town_procession U_t_town_told U_t_town_awningLines U_t_town_shutLines U_t_town_waterLines U_t_town_sunLines t_roofs_words_59 t_ground_words_39 t_town_kinds t_next) pl 62 [some (.ref A_t), some (.int l1), none, none] []
          refine a_iconst (pc := 62) C dX6_layGround_62 kc_0 ?_
          refine s_istore_n (pc := 63) (i := 2) (lo' := [some (.ref A_t), some (.int l1), some (.int 0), none]) C dX6_layGround_63 rfl (by decide) rfl rfl ?_
          obtain ⟨n64, hw⟩ := hw
          refine m_X6_layGround_L64 C hret (fun t_roofs_words t_ground_words t_next l1 hw => ?_) n64 _ _ _ _ _ hw
          refine a_inc (pc := 110) (i := 1) C (fun y => [some (.ref A_t), some (.int y), none, none]) dX6_layGround_110 rfl kc_1 (by decide) rfl (fun _ => rfl) (fun y110 e_y110 => ?_)
          replace hw := hw y110 e_y110
          refine a_goto (pc := 113) (tgt := 16) C dX6_layGround_113 (by decide) ?_
          exact hkb _ _ _ _ hw
set_option maxRecDepth 20000 in
theorem m_X6_layGround {X : Ctx} {ka : KA} (C : Cok X cX6_layGround 4 RX6 (rmL 2) (FzC ka)) {pl : Pool} {A_t A_t_roofs A_t_roofs_words A_t_ground A_t_ground_words A_t_town A_t_town_kinds A_t_next : Nat} {U_t_lines U_t_shades U_t_casts U_t_queue U_t_steps U_t_town_heights U_t_town_awnings U_t_town_shuts U_t_town_water U_t_town_suns U_t_town_walkers U_t_town_places U_t_town_procession U_t_town_told U_t_town_awningLines U_t_town_shutLines U_t_town_waterLines U_t_town_sunLines : Value} {t_town_kinds : Nat → Int32} {t_roofs_words : Nat → Int64} {t_ground_words : Nat → Int64} {t_next : Nat → Int32} {post : (Nat → Int64) → (Nat → Int64) → (Nat → Int32) → Prop} (hret : ∀ (w0 : Nat → Int64) (w1 : Nat → Int64) (w2 : Nat → Int32) (pc : Nat) (lo : List (Option Value)), post w0 w1 w2 → decode cX6_layGround pc = .ok (.return_, 1) → AW X 4 0 0 (w_X6_layGround (cxG X) A_t A_t_roofs A_t_roofs_words A_t_ground A_t_ground_words A_t_town A_t_town_kinds A_t_next U_t_lines U_t_shades U_t_casts U_t_queue U_t_steps U_t_town_heights U_t_town_awnings U_t_town_shuts U_t_town_water U_t_town_suns U_t_town_walkers U_t_town_places U_t_town_procession U_t_town_told U_t_town_awningLines U_t_town_shutLines U_t_town_waterLines U_t_town_sunLines w0 w1 t_town_kinds w2) pl pc lo []) (hw : wp_X6_layGround t_town_kinds t_roofs_words t_ground_words t_next post) : AW X 4 0 0 (w_X6_layGround (cxG X) A_t A_t_roofs A_t_roofs_words A_t_ground A_t_ground_words A_t_town A_t_town_kinds A_t_next U_t_lines U_t_shades U_t_casts U_t_queue U_t_steps U_t_town_heights U_t_town_awnings U_t_town_shuts U_t_town_water U_t_town_suns U_t_town_walkers U_t_town_places U_t_town_procession U_t_town_told U_t_town_awningLines U_t_town_shutLines U_t_town_waterLines U_t_town_sunLines t_roofs_words t_ground_words t_town_kinds t_next) pl 0 [some (.ref A_t), none, none, none] [] := by
  replace hw : wp_X5_empty 2 t_roofs_words (fun t_roofs_words_4 => wp_X5_empty 2 t_ground_words (fun t_ground_words_11 => ∃ n, lp (wp_X6_layGround_L16 (fun t_roofs_words t_ground_words t_next => post t_roofs_words t_ground_words t_next) t_town_kinds post) n (t_roofs_words_4, t_ground_words_11, t_next, 0))) := hw
  refine a_aload_n (pc := 0) (i := 0) C dX6_layGround_0 rfl rfl ?_
  refine a_get (pc := 1) C fl_X6_27 dX6_layGround_1 0 rfl rfl ?_
  refine a_callVv (pc := 4) (As := []) (st := []) (ws' := (fun u => (w_X6_layGround (cxG X) A_t A_t_roofs A_t_roofs_words A_t_ground A_t_ground_words A_t_town A_t_town_kinds A_t_next U_t_lines U_t_shades U_t_casts U_t_queue U_t_steps U_t_town_heights U_t_town_awnings U_t_town_shuts U_t_town_water U_t_town_suns U_t_town_walkers U_t_town_places U_t_town_procession U_t_town_told U_t_town_awningLines U_t_town_shutLines U_t_town_waterLines U_t_town_sunLines u t_ground_words t_town_kinds t_next))) C (c_X5_empty A_t_roofs A_t_roofs_words 2 hw) dX6_layGround_4 mth_X5_empty tml_X6_55 (fun _ _ h => trivial) Fz0_ok (rml (by decide) (by decide)) (Nat.le_of_ble_eq_true rfl) rfl rfl [1, 2] [0, 3, 4, 5, 6, 7] [0, 6, 7, 1, 2, 3, 4, 5] rfl rfl rfl rfl rfl rfl (ci := 5) rfl ⟨0, _, rfl⟩ (fun _ => rfl) rfl (fun _ => rfl) (fun u hw => ?_)
  obtain ⟨t_roofs_words_4, rfl⟩ : ∃ z, z = u := ⟨_, rfl⟩
  show AW X 4 0 0 (w_X6_layGround (cxG X) A_t A_t_roofs A_t_roofs_words A_t_ground A_t_ground_words A_t_town A_t_town_kinds A_t_next U_t_lines U_t_shades U_t_casts U_t_queue U_t_steps U_t_town_heights U_t_town_awnings U_t_town_shuts U_t_town_water U_t_town_suns U_t_town_walkers U_t_town_places U_t_town_procession U_t_town_told U_t_town_awningLines U_t_town_shutLines U_t_town_waterLines U_t_town_sunLines t_roofs_words_4 t_ground_words t_town_kinds t_next) pl 7 [some (.ref A_t), none, none, none] []
  refine a_aload_n (pc := 7) (i := 0) C dX6_layGround_7 rfl rfl ?_
  refine a_get (pc := 8) C fl_X6_30 dX6_layGround_8 0 rfl rfl ?_
  refine a_callVv (pc := 11) (As := []) (st := []) (ws' := (fun u => (w_X6_layGround (cxG X) A_t A_t_roofs A_t_roofs_words A_t_ground A_t_ground_words A_t_town A_t_town_kinds A_t_next U_t_lines U_t_shades U_t_casts U_t_queue U_t_steps U_t_town_heights U_t_town_awnings U_t_town_shuts U_t_town_water U_t_town_suns U_t_town_walkers U_t_town_places U_t_town_procession U_t_town_told U_t_town_awningLines U_t_town_shutLines U_t_town_waterLines U_t_town_sunLines t_roofs_words_4 u t_town_kinds t_next))) C (c_X5_empty A_t_ground A_t_ground_words 2 hw) dX6_layGround_11 mth_X5_empty tml_X6_55 (fun _ _ h => trivial) Fz0_ok (rml (by decide) (by decide)) (Nat.le_of_ble_eq_true rfl) rfl rfl [3, 4] [0, 1, 2, 5, 6, 7] [0, 1, 2, 6, 7, 3, 4, 5] rfl rfl rfl rfl rfl rfl (ci := 5) rfl ⟨0, _, rfl⟩ (fun _ => rfl) rfl (fun _ => rfl) (fun u hw => ?_)
  obtain ⟨t_ground_words_11, rfl⟩ : ∃ z, z = u := ⟨_, rfl⟩
  show AW X 4 0 0 (w_X6_layGround (cxG X) A_t A_t_roofs A_t_roofs_words A_t_ground A_t_ground_words A_t_town A_t_town_kinds A_t_next U_t_lines U_t_shades U_t_casts U_t_queue U_t_steps U_t_town_heights U_t_town_awnings U_t_town_shuts U_t_town_water U_t_town_suns U_t_town_walkers U_t_town_places U_t_town_procession U_t_town_told U_t_town_awningLines U_t_town_shutLines U_t_town_waterLines U_t_town_sunLines t_roofs_words_4 t_ground_words_11 t_town_kinds t_next) pl 14 [some (.ref A_t), none, none, none] []
  refine a_iconst (pc := 14) C dX6_layGround_14 kc_0 ?_
  refine s_istore_n (pc := 15) (i := 1) (lo' := [some (.ref A_t), some (.int 0), none, none]) C dX6_layGround_15 rfl (by decide) rfl rfl ?_
  obtain ⟨n16, hw⟩ := hw
  refine m_X6_layGround_L16 C hret (fun t_roofs_words t_ground_words t_next hw => ?_) n16 _ _ _ _ hw
  exact hret _ _ _ _ _ hw dX6_layGround_116
theorem c_X6_layGround {ka : KA} {l : Launch} {g : GG} {pl : Pool} (A_t A_t_roofs A_t_roofs_words A_t_ground A_t_ground_words A_t_town A_t_town_kinds A_t_next : Nat) (U_t_lines U_t_shades U_t_casts U_t_queue U_t_steps U_t_town_heights U_t_town_awnings U_t_town_shuts U_t_town_water U_t_town_suns U_t_town_walkers U_t_town_places U_t_town_procession U_t_town_told U_t_town_awningLines U_t_town_shutLines U_t_town_waterLines U_t_town_sunLines : Value) {t_town_kinds : Nat → Int32} {t_roofs_words : Nat → Int64} {t_ground_words : Nat → Int64} {t_next : Nat → Int32} {post : (Nat → Int64) → (Nat → Int64) → (Nat → Int32) → Prop} (hw : wp_X6_layGround t_town_kinds t_roofs_words t_ground_words t_next post) : MV l yX6_layGround cX6_layGround 4 (none : Option Jvm.ClassFile.FieldType) (rmL 2) g (FzC ka) [.ref A_t] (w_X6_layGround g A_t A_t_roofs A_t_roofs_words A_t_ground A_t_ground_words A_t_town A_t_town_kinds A_t_next U_t_lines U_t_shades U_t_casts U_t_queue U_t_steps U_t_town_heights U_t_town_awnings U_t_town_shuts U_t_town_water U_t_town_suns U_t_town_walkers U_t_town_places U_t_town_procession U_t_town_told U_t_town_awningLines U_t_town_shutLines U_t_town_waterLines U_t_town_sunLines t_roofs_words t_ground_words t_town_kinds t_next) pl (fun (u : (Nat → Int64) × (Nat → Int64) × (Nat → Int32)) => post u.1 u.2.1 u.2.2) (fun u => (w_X6_layGround g A_t A_t_roofs A_t_roofs_words A_t_ground A_t_ground_words A_t_town A_t_town_kinds A_t_next U_t_lines U_t_shades U_t_casts U_t_queue U_t_steps U_t_town_heights U_t_town_awnings U_t_town_shuts U_t_town_water U_t_town_suns U_t_town_walkers U_t_town_places U_t_town_procession U_t_town_told U_t_town_awningLines U_t_town_shutLines U_t_town_waterLines U_t_town_sunLines u.1 u.2.1 t_town_kinds u.2.2)) (fun _ => pl) 0 0 := by
  refine met_v (own := RX6) rfl rfl (Nat.le_of_ble_eq_true rfl) (fun X hg hl C hini hret => ?_)
  subst hg
  subst hl
  exact m_X6_layGround C (fun w0 w1 w2 pc lo hp hd => hret (w0, w1, w2) pc lo hp hd) hw
abbrev w_X6_build (g : GG) (A_t A_a1 A_t_roofs A_t_roofs_words A_t_ground A_t_ground_words A_a1_kinds A_t_next A_t_lines A_a1_suns A_t_casts A_t_casts_words A_a1_heights A_t_shades A_t_shades_words A_a1_awnings A_a1_awnings_words : Nat) (U_t_queue U_t_steps U_t_town U_a1_shuts U_a1_water U_a1_walkers U_a1_places U_a1_procession U_a1_told U_a1_awningLines U_a1_shutLines U_a1_waterLines : Value) (a1_sunLines : Int32) (t_roofs_words : Nat → Int64) (t_ground_words : Nat → Int64) (a1_kinds : Nat → Int32) (t_next : Nat → Int32) (t_lines : Nat → Int32) (a1_suns : Nat → Option Nat) (t_casts_words : Nat → Int64) (a1_heights : Nat → Int32) (t_shades_words : Nat → Int64) (a1_awnings_words : Nat → Int64) : va_W := [(A_t, ob 6 [.ref A_t_lines, .ref A_t_shades, .ref A_t_casts, .ref A_t_roofs, .ref A_t_ground, .ref A_t_next, U_t_queue, U_t_steps, U_t_town]), (A_a1, ob 8 [.ref A_a1_kinds, .ref A_a1_heights, .ref A_a1_awnings, U_a1_shuts, U_a1_water, .ref A_a1_suns, U_a1_walkers, U_a1_places, U_a1_procession, U_a1_told, U_a1_awningLines, U_a1_shutLines, U_a1_waterLines, .int a1_sunLines]), (A_t_roofs, ob 5 [.ref A_t_roofs_words]), (A_t_roofs_words, aJ g 2 t_roofs_words), (A_t_ground, ob 5 [.ref A_t_ground_words]), (A_t_ground_words, aJ g 2 t_ground_words), (A_a1_kinds, aI g 100 a1_kinds), (A_t_next, aI g 400 t_next), (A_t_lines, aI g 480 t_lines), (A_a1_suns, aS g 24 a1_suns), (A_t_casts, ob 5 [.ref A_t_casts_words]), (A_t_casts_words, aJ g 48 t_casts_words), (A_a1_heights, aI g 100 a1_heights), (A_t_shades, ob 5 [.ref A_t_shades_words]), (A_t_shades_words, aJ g 960 t_shades_words), (A_a1_awnings, ob 5 [.ref A_a1_awnings_words]), (A_a1_awnings_words, aJ g 960 a1_awnings_words)]
set_option maxRecDepth 20000 in
theorem m_X6_build_L26 {X : Ctx} {ka : KA} (C : Cok X cX6_build 3 RX6 (rmL 4) (FzC ka)) {pl : Pool} {A_t A_a1 A_t_roofs A_t_roofs_words A_t_ground A_t_ground_words A_a1_kinds A_t_next A_t_lines A_a1_suns A_t_casts A_t_casts_words A_a1_heights A_t_shades A_t_shades_words A_a1_awnings A_a1_awnings_words : Nat} {U_t_queue U_t_steps U_t_town U_a1_shuts U_a1_water U_a1_walkers U_a1_places U_a1_procession U_a1_told U_a1_awningLines U_a1_shutLines U_a1_waterLines : Value} {a1_sunLines : Int32} {a1_kinds : Nat → Int32} {a1_suns : Nat → Option Nat} {a1_heights : Nat → Int32} {a1_awnings_words : Nat → Int64} {post : (Nat → Int64) → (Nat → Int64) → (Nat → Int32) → (Nat → Int32) → (Nat → Int64) → (Nat → Int64) → Prop} (hret : ∀ (w0 : Nat → Int64) (w1 : Nat → Int64) (w2 : Nat → Int32) (w3 : Nat → Int32) (w4 : Nat → Int64) (w5 : Nat → Int64) (pc : Nat) (lo : List (Option Value)), post w0 w1 w2 w3 w4 w5 → decode cX6_build pc = .ok (.return_, 1) → AW X 3 0 0 (w_X6_build (cxG X) A_t A_a1 A_t_roofs A_t_roofs_words A_t_ground A_t_ground_words A_a1_kinds A_t_next A_t_lines A_a1_suns A_t_casts A_t_casts_words A_a1_heights A_t_shades A_t_shades_words A_a1_awnings A_a1_awnings_words U_t_queue U_t_steps (.ref A_a1) U_a1_shuts U_a1_water U_a1_walkers U_a1_places U_a1_procession U_a1_told U_a1_awningLines U_a1_shutLines U_a1_waterLines a1_sunLines w0 w1 a1_kinds w2 w3 a1_suns w4 a1_heights w5 a1_awnings_words) pl pc lo []) {x_107 : (Nat → Int64) → (Nat → Int64) → (Nat → Int32) → (Nat → Int32) → (Nat → Int64) → (Nat → Int64) → Prop} (hx_107 : ∀ (t_roofs_words : Nat → Int64) (t_ground_words : Nat → Int64) (t_next : Nat → Int32) (t_lines : Nat → Int32) (t_casts_words : Nat → Int64) (t_shades_words : Nat → Int64) , x_107 t_roofs_words t_ground_words t_next t_lines t_casts_words t_shades_words → AW X 3 0 0 (w_X6_build (cxG X) A_t A_a1 A_t_roofs A_t_roofs_words A_t_ground A_t_ground_words A_a1_kinds A_t_next A_t_lines A_a1_suns A_t_casts A_t_casts_words A_a1_heights A_t_shades A_t_shades_words A_a1_awnings A_a1_awnings_words U_t_queue U_t_steps (.ref A_a1) U_a1_shuts U_a1_water U_a1_walkers U_a1_places U_a1_procession U_a1_told U_a1_awningLines U_a1_shutLines U_a1_waterLines a1_sunLines t_roofs_words t_ground_words a1_kinds t_next t_lines a1_suns t_casts_words a1_heights t_shades_words a1_awnings_words) pl 107 [none, none, none] []) : ∀ (n26 : Nat) (t_roofs_words : Nat → Int64) (t_ground_words : Nat → Int64) (t_next : Nat → Int32) (t_lines : Nat → Int32) (t_casts_words : Nat → Int64) (t_shades_words : Nat → Int64) (l2 : Int32) , lp (wp_X6_build_L26 pl x_107 a1_sunLines a1_kinds a1_suns a1_heights a1_awnings_words post) n26 (t_roofs_words, t_ground_words, t_next, t_lines, t_casts_words, t_shades_words, l2) → AW X 3 0 0 (w_X6_build (cxG X) A_t A_a1 A_t_roofs A_t_roofs_words A_t_ground A_t_ground_words A_a1_kinds A_t_next A_t_lines A_a1_suns A_t_casts A_t_casts_words A_a1_heights A_t_shades A_t_shades_words A_a1_awnings A_a1_awnings_words U_t_queue U_t_steps (.ref A_a1) U_a1_shuts U_a1_water U_a1_walkers U_a1_places U_a1_procession U_a1_told U_a1_awningLines U_a1_shutLines U_a1_waterLines a1_sunLines t_roofs_words t_ground_words a1_kinds t_next t_lines a1_suns t_casts_words a1_heights t_shades_words a1_awnings_words) pl 26 [some (.ref A_t), none, some (.int l2)] [] := by
  intro n26
  induction n26 with
  | zero => exact fun _ _ _ _ _ _ _ hw => hw.elim
  | succ n26 hkb =>
    intro t_roofs_words t_ground_words t_next t_lines t_casts_words t_shades_words l2 hw
    replace hw : wp_X6_build_L26 pl x_107 a1_sunLines a1_kinds a1_suns a1_heights a1_awnings_words post (lp (wp_X6_build_L26 pl x_107 a1_sunLines a1_kinds a1_suns a1_heights a1_awnings_words post) n26) (t_roofs_words, t_ground_words, t_next, t_lines, t_casts_words, t_shades_words, l2) := hw
    generalize lp (wp_X6_build_L26 pl x_107 a1_sunLines a1_kinds a1_suns a1_heights a1_awnings_words post) n26 = kb at hw hkb
    refine a_iload_n (pc := 26) (i := 2) C dX6_build_26 rfl rfl ?_
    refine a_sipush (pc := 27) C dX6_build_27 ks_480 ?_
    refine a_icmp_ge (pc := 30) (tgt := 107) C dX6_build_30 (by decide) (fun c_30 => ?_) (fun c_30 => ?_)
    · replace hw := hw.1 c_30
      refine a_msk [false, true, false] rfl ?_
      exact hx_107 _ _ _ _ _ _ hw
    · replace hw := hw.2 c_30
      refine a_aload_n (pc := 33) (i := 0) C dX6_build_33 rfl rfl ?_
      refine a_get (pc := 34) C fl_X6_9 dX6_build_34 0 rfl rfl ?_
      refine a_iload_n (pc := 37) (i := 2) C dX6_build_37 rfl rfl ?_
      obtain ⟨i_38, hw⟩ := hw
      refine a_iald (pc := 38) C dX6_build_38 8 rfl i_38 ?_
      refine a_iconst (pc := 39) C dX6_build_39 kc_m1 ?_
      refine a_icmp_ne (pc := 40) (tgt := 54) C dX6_build_40 (by decide) (fun c_40 => ?_) (fun c_40 => ?_)
      · replace hw := hw.1 c_40
        refine a_aload_n (pc := 54) (i := 0) C dX6_build_54 rfl rfl ?_
        refine a_get (pc := 55) C fl_X6_20 dX6_build_55 0 rfl rfl ?_
        refine a_iload_n (pc := 58) (i := 2) C dX6_build_58 rfl rfl ?_
        refine a_aload_n (pc := 59) (i := 0) C dX6_build_59 rfl rfl ?_
        refine a_get (pc := 60) C fl_X6_24 dX6_build_60 0 rfl rfl ?_
        refine a_aload_n (pc := 63) (i := 0) C dX6_build_63 rfl rfl ?_
        refine a_get (pc := 64) C fl_X6_9 dX6_build_64 0 rfl rfl ?_
        refine a_iload_n (pc := 67) (i := 2) C dX6_build_67 rfl rfl ?_
        obtain ⟨i_68, hw⟩ := hw
        refine a_iald (pc := 68) C dX6_build_68 8 rfl i_68 ?_
        refine a_callVv (pc := 69) (As := [.int l2, .ref A_t_casts, .int (t_lines (Int32.toNatClampNeg l2))]) (st := []) (ws' := (fun u => (w_X6_build (cxG X) A_t A_a1 A_t_roofs A_t_roofs_words A_t_ground A_t_ground_words A_a1_kinds A_t_next A_t_lines A_a1_suns A_t_casts A_t_casts_words A_a1_heights A_t_shades A_t_shades_words A_a1_awnings A_a1_awnings_words U_t_queue U_t_steps (.ref A_a1) U_a1_shuts U_a1_water U_a1_walkers U_a1_places U_a1_procession U_a1_told U_a1_awningLines U_a1_shutLines U_a1_waterLines a1_sunLines t_roofs_words t_ground_words a1_kinds t_next t_lines a1_suns t_casts_words a1_heights u a1_awnings_words))) C (c_X5_join A_t_shades A_t_casts A_t_casts_words A_t_shades_words 48 960 hw) dX6_build_69 mth_X5_join tml_X6_61 (fun _ _ h => trivial) Fz0_ok (rml (by decide) (by decide)) (Nat.le_of_ble_eq_true rfl) rfl rfl [13, 10, 11, 14] [0, 1, 2, 3, 4, 5, 6, 7, 8, 9, 12, 15, 16] [0, 1, 2, 3, 4, 5, 6, 7, 8, 9, 14, 15, 10, 13, 16, 11, 12] rfl rfl rfl rfl rfl rfl (ci := 5) rfl ⟨0, _, rfl⟩ (fun _ => rfl) rfl (fun _ => rfl) (fun u hw => ?_)
        obtain ⟨t_shades_words_69, rfl⟩ : ∃ z, z = u := ⟨_, rfl⟩
        show AW X 3 0 0 (w_X6_build (cxG X) A_t A_a1 A_t_roofs A_t_roofs_words A_t_ground A_t_ground_words A_a1_kinds A_t_next A_t_lines A_a1_suns A_t_casts A_t_casts_words A_a1_heights A_t_shades A_t_shades_words A_a1_awnings A_a1_awnings_words U_t_queue U_t_steps (.ref A_a1) U_a1_shuts U_a1_water U_a1_walkers U_a1_places U_a1_procession U_a1_told U_a1_awningLines U_a1_shutLines U_a1_waterLines a1_sunLines t_roofs_words t_ground_words a1_kinds t_next t_lines a1_suns t_casts_words a1_heights t_shades_words_69 a1_awnings_words) pl 72 [some (.ref A_t), none, some (.int l2)] []
        refine a_aload_n (pc := 72) (i := 0) C dX6_build_72 rfl rfl ?_
        refine a_get (pc := 73) C fl_X6_20 dX6_build_73 0 rfl rfl ?_
        refine a_iload_n (pc := 76) (i := 2) C dX6_build_76 rfl rfl ?_
        refine a_aload_n (pc := 77) (i := 0) C dX6_build_77 rfl rfl ?_
        refine a_get (pc := 78) C fl_X6_27 dX6_build_78 0 rfl rfl ?_
        refine a_iconst (pc := 81) C dX6_build_81 kc_0 ?_
        refine a_callVv (pc := 82) (As := [.int l2, .ref A_t_roofs, .int 0]) (st := []) (ws' := (fun u => (w_X6_build (cxG X) A_t A_a1 A_t_roofs A_t_roofs_words A_t_ground A_t_ground_words A_a1_kinds A_t_next A_t_lines A_a1_suns A_t_casts A_t_casts_words A_a1_heights A_t_shades A_t_shades_words A_a1_awnings A_a1_awnings_words U_t_queue U_t_steps (.ref A_a1) U_a1_shuts U_a1_water U_a1_walkers U_a1_places U_a1_procession U_a1_told U_a1_awningLines U_a1_shutLines U_a1_waterLines a1_sunLines t_roofs_words t_ground_words a1_kinds t_next t_lines a1_suns t_casts_words a1_heights u a1_awnings_words))) C (c_X5_join A_t_shades A_t_roofs A_t_roofs_words A_t_shades_words 2 960 hw) dX6_build_82 mth_X5_join tml_X6_61 (fun _ _ h => trivial) Fz0_ok (rml (by decide) (by decide)) (Nat.le_of_ble_eq_true rfl) rfl rfl [13, 2, 3, 14] [0, 1, 4, 5, 6, 7, 8, 9, 10, 11, 12, 15, 16] [0, 1, 14, 15, 2, 3, 4, 5, 6, 7, 8, 9, 10, 13, 16, 11, 12] rfl rfl rfl rfl rfl rfl (ci := 5) rfl ⟨0, _, rfl⟩ (fun _ => rfl) rfl (fun _ => rfl) (fun u hw => ?_)
        obtain ⟨t_shades_words_82, rfl⟩ : ∃ z, z = u := ⟨_, rfl⟩
        show AW X 3 0 0 (w_X6_build (cxG X) A_t A_a1 A_t_roofs A_t_roofs_words A_t_ground A_t_ground_words A_a1_kinds A_t_next A_t_lines A_a1_suns A_t_casts A_t_casts_words A_a1_heights A_t_shades A_t_shades_words A_a1_awnings A_a1_awnings_words U_t_queue U_t_steps (.ref A_a1) U_a1_shuts U_a1_water U_a1_walkers U_a1_places U_a1_procession U_a1_told U_a1_awningLines U_a1_shutLines U_a1_waterLines a1_sunLines t_roofs_words t_ground_words a1_kinds t_next t_lines a1_suns t_casts_words a1_heights t_shades_words_82 a1_awnings_words) pl 85 [some (.ref A_t), none, some (.int l2)] []
        refine a_aload_n (pc := 85) (i := 0) C dX6_build_85 rfl rfl ?_
        refine a_get (pc := 86) C fl_X6_20 dX6_build_86 0 rfl rfl ?_
        refine a_iload_n (pc := 89) (i := 2) C dX6_build_89 rfl rfl ?_
        refine a_aload_n (pc := 90) (i := 0) C dX6_build_90 rfl rfl ?_
        refine a_get (pc := 91) C fl_X6_42 dX6_build_91 0 rfl rfl ?_
        refine a_get (pc := 94) C fl_X6_65 dX6_build_94 1 rfl rfl ?_
        refine a_iload_n (pc := 97) (i := 2) C dX6_build_97 rfl rfl ?_
        refine a_callVv (pc := 98) (As := [.int l2, .ref A_a1_awnings, .int l2]) (st := []) (ws' := (fun u => (w_X6_build (cxG X) A_t A_a1 A_t_roofs A_t_roofs_words A_t_ground A_t_ground_words A_a1_kinds A_t_next A_t_lines A_a1_suns A_t_casts A_t_casts_words A_a1_heights A_t_shades A_t_shades_words A_a1_awnings A_a1_awnings_words U_t_queue U_t_steps (.ref A_a1) U_a1_shuts U_a1_water U_a1_walkers U_a1_places U_a1_procession U_a1_told U_a1_awningLines U_a1_shutLines U_a1_waterLines a1_sunLines t_roofs_words t_ground_words a1_kinds t_next t_lines a1_suns t_casts_words a1_heights u a1_awnings_words))) C (c_X5_join A_t_shades A_a1_awnings A_a1_awnings_words A_t_shades_words 960 960 hw) dX6_build_98 mth_X5_join tml_X6_61 (fun _ _ h => trivial) Fz0_ok (rml (by decide) (by decide)) (Nat.le_of_ble_eq_true rfl) rfl rfl [13, 15, 16, 14] [0, 1, 2, 3, 4, 5, 6, 7, 8, 9, 10, 11, 12] [0, 1, 2, 3, 4, 5, 6, 7, 8, 9, 10, 11, 12, 13, 16, 14, 15] rfl rfl rfl rfl rfl rfl (ci := 5) rfl ⟨0, _, rfl⟩ (fun _ => rfl) rfl (fun _ => rfl) (fun u hw => ?_)
        obtain ⟨t_shades_words_98, rfl⟩ : ∃ z, z = u := ⟨_, rfl⟩
        show AW X 3 0 0 (w_X6_build (cxG X) A_t A_a1 A_t_roofs A_t_roofs_words A_t_ground A_t_ground_words A_a1_kinds A_t_next A_t_lines A_a1_suns A_t_casts A_t_casts_words A_a1_heights A_t_shades A_t_shades_words A_a1_awnings A_a1_awnings_words U_t_queue U_t_steps (.ref A_a1) U_a1_shuts U_a1_water U_a1_walkers U_a1_places U_a1_procession U_a1_told U_a1_awningLines U_a1_shutLines U_a1_waterLines a1_sunLines t_roofs_words t_ground_words a1_kinds t_next t_lines a1_suns t_casts_words a1_heights t_shades_words_98 a1_awnings_words) pl 101 [some (.ref A_t), none, some (.int l2)] []
        refine a_inc (pc := 101) (i := 2) C (fun y => [some (.ref A_t), none, some (.int y)]) dX6_build_101 rfl kc_1 (by decide) rfl (fun _ => rfl) (fun y101 e_y101 => ?_)
        replace hw := hw y101 e_y101
        refine a_goto (pc := 104) (tgt := 26) C dX6_build_104 (by decide) ?_
        exact hkb _ _ _ _ _ _ _ hw
      · replace hw := hw.2 c_40
        refine a_aload_n (pc := 43) (i := 0) C dX6_build_43 rfl rfl ?_
        refine a_get (pc := 44) C fl_X6_20 dX6_build_44 0 rfl rfl ?_
        refine a_iload_n (pc := 47) (i := 2) C dX6_build_47 rfl rfl ?_
        refine a_callVv (pc := 48) (As := [.int l2]) (st := []) (ws' := (fun u => (w_X6_build (cxG X) A_t A_a1 A_t_roofs A_t_roofs_words A_t_ground A_t_ground_words A_a1_kinds A_t_next A_t_lines A_a1_suns A_t_casts A_t_casts_words A_a1_heights A_t_shades A_t_shades_words A_a1_awnings A_a1_awnings_words U_t_queue U_t_steps (.ref A_a1) U_a1_shuts U_a1_water U_a1_walkers U_a1_places U_a1_procession U_a1_told U_a1_awningLines U_a1_shutLines U_a1_waterLines a1_sunLines t_roofs_words t_ground_words a1_kinds t_next t_lines a1_suns t_casts_words a1_heights u a1_awnings_words))) C (c_X5_fillRow A_t_shades A_t_shades_words 960 hw) dX6_build_48 mth_X5_fillRow tml_X6_58 (fun _ _ h => trivial) Fz0_ok (rml (by decide) (by decide)) (Nat.le_of_ble_eq_true rfl) rfl rfl [13, 14] [0, 1, 2, 3, 4, 5, 6, 7, 8, 9, 10, 11, 12, 15, 16] [0, 1, 2, 3, 4, 5, 6, 7, 8, 9, 10, 11, 12, 15, 16, 13, 14] rfl rfl rfl rfl rfl rfl (ci := 5) rfl ⟨0, _, rfl⟩ (fun _ => rfl) rfl (fun _ => rfl) (fun u hw => ?_)
        obtain ⟨t_shades_words_48, rfl⟩ : ∃ z, z = u := ⟨_, rfl⟩
        show AW X 3 0 0 (w_X6_build (cxG X) A_t A_a1 A_t_roofs A_t_roofs_words A_t_ground A_t_ground_words A_a1_kinds A_t_next A_t_lines A_a1_suns A_t_casts A_t_casts_words A_a1_heights A_t_shades A_t_shades_words A_a1_awnings A_a1_awnings_words U_t_queue U_t_steps (.ref A_a1) U_a1_shuts U_a1_water U_a1_walkers U_a1_places U_a1_procession U_a1_told U_a1_awningLines U_a1_shutLines U_a1_waterLines a1_sunLines t_roofs_words t_ground_words a1_kinds t_next t_lines a1_suns t_casts_words a1_heights t_shades_words_48 a1_awnings_words) pl 51 [some (.ref A_t), none, some (.int l2)] []
        refine a_goto (pc := 51) (tgt := 101) C dX6_build_51 (by decide) ?_
        refine a_inc (pc := 101) (i := 2) C (fun y => [some (.ref A_t), none, some (.int y)]) dX6_build_101 rfl kc_1 (by decide) rfl (fun _ => rfl) (fun y101 e_y101 => ?_)
        replace hw := hw y101 e_y101
        refine a_goto (pc := 104) (tgt := 26) C dX6_build_104 (by decide) ?_
        exact hkb _ _ _ _ _ _ _ hw
set_option maxRecDepth 20000 in
theorem m_X6_build {X : Ctx} {ka : KA} (C : Cok X cX6_build 3 RX6 (rmL 4) (FzC ka)) {pl : Pool} {A_t A_a1 A_t_roofs A_t_roofs_words A_t_ground A_t_ground_words A_a1_kinds A_t_next A_t_lines A_a1_suns A_t_casts A_t_casts_words A_a1_heights A_t_shades A_t_shades_words A_a1_awnings A_a1_awnings_words : Nat} {U_t_queue U_t_steps U_t_town U_a1_shuts U_a1_water U_a1_walkers U_a1_places U_a1_procession U_a1_told U_a1_awningLines U_a1_shutLines U_a1_waterLines : Value} {a1_sunLines : Int32} {a1_kinds : Nat → Int32} {a1_suns : Nat → Option Nat} {a1_heights : Nat → Int32} {a1_awnings_words : Nat → Int64} {t_roofs_words : Nat → Int64} {t_ground_words : Nat → Int64} {t_next : Nat → Int32} {t_lines : Nat → Int32} {t_casts_words : Nat → Int64} {t_shades_words : Nat → Int64} {post : (Nat → Int64) → (Nat → Int64) → (Nat → Int32) → (Nat → Int32) → (Nat → Int64) → (Nat → Int64) → Prop} (hret : ∀ (w0 : Nat → Int64) (w1 : Nat → Int64) (w2 : Nat → Int32) (w3 : Nat → Int32) (w4 : Nat → Int64) (w5 : Nat → Int64) (pc : Nat) (lo : List (Option Value)), post w0 w1 w2 w3 w4 w5 → decode cX6_build pc = .ok (.return_, 1) → AW X 3 0 0 (w_X6_build (cxG X) A_t A_a1 A_t_roofs A_t_roofs_words A_t_ground A_t_ground_words A_a1_kinds A_t_next A_t_lines A_a1_suns A_t_casts A_t_casts_words A_a1_heights A_t_shades A_t_shades_words A_a1_awnings A_a1_awnings_words U_t_queue U_t_steps (.ref A_a1) U_a1_shuts U_a1_water U_a1_walkers U_a1_places U_a1_procession U_a1_told U_a1_awningLines U_a1_shutLines U_a1_waterLines a1_sunLines w0 w1 a1_kinds w2 w3 a1_suns w4 a1_heights w5 a1_awnings_words) pl pc lo []) (hw : wp_X6_build pl a1_sunLines a1_kinds a1_suns a1_heights a1_awnings_words t_roofs_words t_ground_words t_next t_lines t_casts_words t_shades_words post) : AW X 3 0 0 (w_X6_build (cxG X) A_t A_a1 A_t_roofs A_t_roofs_words A_t_ground A_t_ground_words A_a1_kinds A_t_next A_t_lines A_a1_suns A_t_casts A_t_casts_words A_a1_heights A_t_shades A_t_shades_words A_a1_awnings A_a1_awnings_words U_t_queue U_t_steps U_t_town U_a1_shuts U_a1_water U_a1_walkers U_a1_places U_a1_procession U_a1_told U_a1_awningLines U_a1_shutLines U_a1_waterLines a1_sunLines t_roofs_words t_ground_words a1_kinds t_next t_lines a1_suns t_casts_words a1_heights t_shades_words a1_awnings_words) pl 0 [some (.ref A_t), some (.ref A_a1), none] [] := by
  replace hw : wp_X6_layGround a1_kinds t_roofs_words t_ground_words t_next (fun t_roofs_words_6 t_ground_words_6 t_next_6 => wp_X6_findLines pl a1_sunLines a1_suns t_lines (fun t_lines_10 => wp_X6_castShadows pl a1_sunLines a1_suns a1_heights t_casts_words (fun t_casts_words_14 => wp_X5_empty 960 t_shades_words (fun t_shades_words_21 => ∃ n, lp (wp_X6_build_L26 pl (fun t_roofs_words t_ground_words t_next t_lines t_casts_words t_shades_words => post t_roofs_words t_ground_words t_next t_lines t_casts_words t_shades_words) a1_sunLines a1_kinds a1_suns a1_heights a1_awnings_words post) n (t_roofs_words_6, t_ground_words_6, t_next_6, t_lines_10, t_casts_words_14, t_shades_words_21, 0))))) := hw
  refine a_aload_n (pc := 0) (i := 0) C dX6_build_0 rfl rfl ?_
  refine a_aload_n (pc := 1) (i := 1) C dX6_build_1 rfl rfl ?_
  refine a_putW (pc := 2) (ws' := (w_X6_build (cxG X) A_t A_a1 A_t_roofs A_t_roofs_words A_t_ground A_t_ground_words A_a1_kinds A_t_next A_t_lines A_a1_suns A_t_casts A_t_casts_words A_a1_heights A_t_shades A_t_shades_words A_a1_awnings A_a1_awnings_words U_t_queue U_t_steps (.ref A_a1) U_a1_shuts U_a1_water U_a1_walkers U_a1_places U_a1_procession U_a1_told U_a1_awningLines U_a1_shutLines U_a1_waterLines a1_sunLines t_roofs_words t_ground_words a1_kinds t_next t_lines a1_suns t_casts_words a1_heights t_shades_words a1_awnings_words)) C fl_X6_42 pu_6_8 dX6_build_2 0 rfl rfl rfl (Nat.le_of_ble_eq_true rfl) rfl ?_
  refine a_aload_n (pc := 5) (i := 0) C dX6_build_5 rfl rfl ?_
  refine a_callVv (pc := 6) (As := []) (st := []) (ws' := (fun u => (w_X6_build (cxG X) A_t A_a1 A_t_roofs A_t_roofs_words A_t_ground A_t_ground_words A_a1_kinds A_t_next A_t_lines A_a1_suns A_t_casts A_t_casts_words A_a1_heights A_t_shades A_t_shades_words A_a1_awnings A_a1_awnings_words U_t_queue U_t_steps (.ref A_a1) U_a1_shuts U_a1_water U_a1_walkers U_a1_places U_a1_procession U_a1_told U_a1_awningLines U_a1_shutLines U_a1_waterLines a1_sunLines u.1 u.2.1 a1_kinds u.2.2 t_lines a1_suns t_casts_words a1_heights t_shades_words a1_awnings_words))) C (c_X6_layGround A_t A_t_roofs A_t_roofs_words A_t_ground A_t_ground_words A_a1 A_a1_kinds A_t_next (.ref A_t_lines) (.ref A_t_shades) (.ref A_t_casts) U_t_queue U_t_steps (.ref A_a1_heights) (.ref A_a1_awnings) U_a1_shuts U_a1_water (.ref A_a1_suns) U_a1_walkers U_a1_places U_a1_procession U_a1_told U_a1_awningLines U_a1_shutLines U_a1_waterLines (.int a1_sunLines) hw) dX6_build_6 mth_X6_layGround tml_X6_46 (fun _ _ h => h) (FzC_ok ka) (rml (by decide) (by decide)) (Nat.le_of_ble_eq_true rfl) rfl rfl [0, 2, 3, 4, 5, 1, 6, 7] [8, 9, 10, 11, 12, 13, 14, 15, 16] [9, 14, 10, 11, 12, 13, 15, 16, 0, 1, 2, 3, 4, 5, 6, 7, 8] rfl rfl rfl rfl rfl rfl (ci := 6) rfl ⟨0, _, rfl⟩ (fun _ => rfl) rfl (fun _ => rfl) (fun u hw => ?_)
  obtain ⟨t_roofs_words_6, t_ground_words_6, t_next_6⟩ := u
  dsimp only at hw
  show AW X 3 0 0 (w_X6_build (cxG X) A_t A_a1 A_t_roofs A_t_roofs_words A_t_ground A_t_ground_words A_a1_kinds A_t_next A_t_lines A_a1_suns A_t_casts A_t_casts_words A_a1_heights A_t_shades A_t_shades_words A_a1_awnings A_a1_awnings_words U_t_queue U_t_steps (.ref A_a1) U_a1_shuts U_a1_water U_a1_walkers U_a1_places U_a1_procession U_a1_told U_a1_awningLines U_a1_shutLines U_a1_waterLines a1_sunLines t_roofs_words_6 t_ground_words_6 a1_kinds t_next_6 t_lines a1_suns t_casts_words a1_heights t_shades_words a1_awnings_words) pl 9 [some (.ref A_t), some (.ref A_a1), none] []
  refine a_aload_n (pc := 9) (i := 0) C dX6_build_9 rfl rfl ?_
  refine a_callVv (pc := 10) (As := []) (st := []) (ws' := (fun u => (w_X6_build (cxG X) A_t A_a1 A_t_roofs A_t_roofs_words A_t_ground A_t_ground_words A_a1_kinds A_t_next A_t_lines A_a1_suns A_t_casts A_t_casts_words A_a1_heights A_t_shades A_t_shades_words A_a1_awnings A_a1_awnings_words U_t_queue U_t_steps (.ref A_a1) U_a1_shuts U_a1_water U_a1_walkers U_a1_places U_a1_procession U_a1_told U_a1_awningLines U_a1_shutLines U_a1_waterLines a1_sunLines t_roofs_words_6 t_ground_words_6 a1_kinds t_next_6 u a1_suns t_casts_words a1_heights t_shades_words a1_awnings_words))) C (c_X6_findLines A_t A_t_lines A_a1 A_a1_suns (.ref A_t_shades) (.ref A_t_casts) (.ref A_t_roofs) (.ref A_t_ground) (.ref A_t_next) U_t_queue U_t_steps (.ref A_a1_kinds) (.ref A_a1_heights) (.ref A_a1_awnings) U_a1_shuts U_a1_water U_a1_walkers U_a1_places U_a1_procession U_a1_told U_a1_awningLines U_a1_shutLines U_a1_waterLines hw) dX6_build_10 mth_X6_findLines tml_X6_49 (fun _ _ h => h) (FzC_ok ka) (rml (by decide) (by decide)) (Nat.le_of_ble_eq_true rfl) rfl rfl [0, 8, 1, 9] [2, 3, 4, 5, 6, 7, 10, 11, 12, 13, 14, 15, 16] [13, 15, 0, 1, 2, 3, 4, 5, 14, 16, 6, 7, 8, 9, 10, 11, 12] rfl rfl rfl rfl rfl rfl (ci := 6) rfl ⟨0, _, rfl⟩ (fun _ => rfl) rfl (fun _ => rfl) (fun u hw => ?_)
  obtain ⟨t_lines_10, rfl⟩ : ∃ z, z = u := ⟨_, rfl⟩
  show AW X 3 0 0 (w_X6_build (cxG X) A_t A_a1 A_t_roofs A_t_roofs_words A_t_ground A_t_ground_words A_a1_kinds A_t_next A_t_lines A_a1_suns A_t_casts A_t_casts_words A_a1_heights A_t_shades A_t_shades_words A_a1_awnings A_a1_awnings_words U_t_queue U_t_steps (.ref A_a1) U_a1_shuts U_a1_water U_a1_walkers U_a1_places U_a1_procession U_a1_told U_a1_awningLines U_a1_shutLines U_a1_waterLines a1_sunLines t_roofs_words_6 t_ground_words_6 a1_kinds t_next_6 t_lines_10 a1_suns t_casts_words a1_heights t_shades_words a1_awnings_words) pl 13 [some (.ref A_t), some (.ref A_a1), none] []
  refine a_aload_n (pc := 13) (i := 0) C dX6_build_13 rfl rfl ?_
  refine a_callVv (pc := 14) (As := []) (st := []) (ws' := (fun u => (w_X6_build (cxG X) A_t A_a1 A_t_roofs A_t_roofs_words A_t_ground A_t_ground_words A_a1_kinds A_t_next A_t_lines A_a1_suns A_t_casts A_t_casts_words A_a1_heights A_t_shades A_t_shades_words A_a1_awnings A_a1_awnings_words U_t_queue U_t_steps (.ref A_a1) U_a1_shuts U_a1_water U_a1_walkers U_a1_places U_a1_procession U_a1_told U_a1_awningLines U_a1_shutLines U_a1_waterLines a1_sunLines t_roofs_words_6 t_ground_words_6 a1_kinds t_next_6 t_lines_10 a1_suns u a1_heights t_shades_words a1_awnings_words))) C (c_X6_castShadows A_t A_t_casts A_t_casts_words A_a1 A_a1_suns A_a1_heights (.ref A_t_lines) (.ref A_t_shades) (.ref A_t_roofs) (.ref A_t_ground) (.ref A_t_next) U_t_queue U_t_steps (.ref A_a1_kinds) (.ref A_a1_awnings) U_a1_shuts U_a1_water U_a1_walkers U_a1_places U_a1_procession U_a1_told U_a1_awningLines U_a1_shutLines U_a1_waterLines hw) dX6_build_14 mth_X6_castShadows tml_X6_52 (fun _ _ h => h) (FzC_ok ka) (rml (by decide) (by decide)) (Nat.le_of_ble_eq_true rfl) rfl rfl [0, 10, 11, 1, 9, 12] [2, 3, 4, 5, 6, 7, 8, 13, 14, 15, 16] [11, 14, 0, 1, 2, 3, 4, 5, 6, 15, 12, 13, 16, 7, 8, 9, 10] rfl rfl rfl rfl rfl rfl (ci := 6) rfl ⟨0, _, rfl⟩ (fun _ => rfl) rfl (fun _ => rfl) (fun u hw => ?_)
  obtain ⟨t_casts_words_14, rfl⟩ : ∃ z, z = u := ⟨_, rfl⟩
  show AW X 3 0 0 (w_X6_build (cxG X) A_t A_a1 A_t_roofs A_t_roofs_words A_t_ground A_t_ground_words A_a1_kinds A_t_next A_t_lines A_a1_suns A_t_casts A_t_casts_words A_a1_heights A_t_shades A_t_shades_words A_a1_awnings A_a1_awnings_words U_t_queue U_t_steps (.ref A_a1) U_a1_shuts U_a1_water U_a1_walkers U_a1_places U_a1_procession U_a1_told U_a1_awningLines U_a1_shutLines U_a1_waterLines a1_sunLines t_roofs_words_6 t_ground_words_6 a1_kinds t_next_6 t_lines_10 a1_suns t_casts_words_14 a1_heights t_shades_words a1_awnings_words) pl 17 [some (.ref A_t), some (.ref A_a1), none] []
  refine a_aload_n (pc := 17) (i := 0) C dX6_build_17 rfl rfl ?_
  refine a_get (pc := 18) C fl_X6_20 dX6_build_18 0 rfl rfl ?_
  refine a_callVv (pc := 21) (As := []) (st := []) (ws' := (fun u => (w_X6_build (cxG X) A_t A_a1 A_t_roofs A_t_roofs_words A_t_ground A_t_ground_words A_a1_kinds A_t_next A_t_lines A_a1_suns A_t_casts A_t_casts_words A_a1_heights A_t_shades A_t_shades_words A_a1_awnings A_a1_awnings_words U_t_queue U_t_steps (.ref A_a1) U_a1_shuts U_a1_water U_a1_walkers U_a1_places U_a1_procession U_a1_told U_a1_awningLines U_a1_shutLines U_a1_waterLines a1_sunLines t_roofs_words_6 t_ground_words_6 a1_kinds t_next_6 t_lines_10 a1_suns t_casts_words_14 a1_heights u a1_awnings_words))) C (c_X5_empty A_t_shades A_t_shades_words 960 hw) dX6_build_21 mth_X5_empty tml_X6_55 (fun _ _ h => trivial) Fz0_ok (rml (by decide) (by decide)) (Nat.le_of_ble_eq_true rfl) rfl rfl [13, 14] [0, 1, 2, 3, 4, 5, 6, 7, 8, 9, 10, 11, 12, 15, 16] [0, 1, 2, 3, 4, 5, 6, 7, 8, 9, 10, 11, 12, 15, 16, 13, 14] rfl rfl rfl rfl rfl rfl (ci := 5) rfl ⟨0, _, rfl⟩ (fun _ => rfl) rfl (fun _ => rfl) (fun u hw => ?_)
  obtain ⟨t_shades_words_21, rfl⟩ : ∃ z, z = u := ⟨_, rfl⟩
  show AW X 3 0 0 (w_X6_build (cxG X) A_t A_a1 A_t_roofs A_t_roofs_words A_t_ground A_t_ground_words A_a1_kinds A_t_next A_t_lines A_a1_suns A_t_casts A_t_casts_words A_a1_heights A_t_shades A_t_shades_words A_a1_awnings A_a1_awnings_words U_t_queue U_t_steps (.ref A_a1) U_a1_shuts U_a1_water U_a1_walkers U_a1_places U_a1_procession U_a1_told U_a1_awningLines U_a1_shutLines U_a1_waterLines a1_sunLines t_roofs_words_6 t_ground_words_6 a1_kinds t_next_6 t_lines_10 a1_suns t_casts_words_14 a1_heights t_shades_words_21 a1_awnings_words) pl 24 [some (.ref A_t), some (.ref A_a1), none] []
  refine a_iconst (pc := 24) C dX6_build_24 kc_0 ?_
  refine s_istore_n (pc := 25) (i := 2) (lo' := [some (.ref A_t), some (.ref A_a1), some (.int 0)]) C dX6_build_25 rfl (by decide) rfl rfl ?_
  refine a_msk [true, false, true] rfl ?_
  obtain ⟨n26, hw⟩ := hw
  refine m_X6_build_L26 (U_t_town := U_t_town) C hret (fun t_roofs_words t_ground_words t_next t_lines t_casts_words t_shades_words hw => ?_) n26 _ _ _ _ _ _ _ hw
  exact hret _ _ _ _ _ _ _ _ hw dX6_build_107
theorem c_X6_build {ka : KA} {l : Launch} {g : GG} {pl : Pool} (A_t A_a1 A_t_roofs A_t_roofs_words A_t_ground A_t_ground_words A_a1_kinds A_t_next A_t_lines A_a1_suns A_t_casts A_t_casts_words A_a1_heights A_t_shades A_t_shades_words A_a1_awnings A_a1_awnings_words : Nat) (U_t_queue U_t_steps U_t_town U_a1_shuts U_a1_water U_a1_walkers U_a1_places U_a1_procession U_a1_told U_a1_awningLines U_a1_shutLines U_a1_waterLines : Value) {a1_sunLines : Int32} {a1_kinds : Nat → Int32} {a1_suns : Nat → Option Nat} {a1_heights : Nat → Int32} {a1_awnings_words : Nat → Int64} {t_roofs_words : Nat → Int64} {t_ground_words : Nat → Int64} {t_next : Nat → Int32} {t_lines : Nat → Int32} {t_casts_words : Nat → Int64} {t_shades_words : Nat → Int64} {post : (Nat → Int64) → (Nat → Int64) → (Nat → Int32) → (Nat → Int32) → (Nat → Int64) → (Nat → Int64) → Prop} (hw : wp_X6_build pl a1_sunLines a1_kinds a1_suns a1_heights a1_awnings_words t_roofs_words t_ground_words t_next t_lines t_casts_words t_shades_words post) : MV l yX6_build cX6_build 3 (none : Option Jvm.ClassFile.FieldType) (rmL 4) g (FzC ka) [.ref A_t, .ref A_a1] (w_X6_build g A_t A_a1 A_t_roofs A_t_roofs_words A_t_ground A_t_ground_words A_a1_kinds A_t_next A_t_lines A_a1_suns A_t_casts A_t_casts_words A_a1_heights A_t_shades A_t_shades_words A_a1_awnings A_a1_awnings_words U_t_queue U_t_steps U_t_town U_a1_shuts U_a1_water U_a1_walkers U_a1_places U_a1_procession U_a1_told U_a1_awningLines U_a1_shutLines U_a1_waterLines a1_sunLines t_roofs_words t_ground_words a1_kinds t_next t_lines a1_suns t_casts_words a1_heights t_shades_words a1_awnings_words) pl (fun (u : (Nat → Int64) × (Nat → Int64) × (Nat → Int32) × (Nat → Int32) × (Nat → Int64) × (Nat → Int64)) => post u.1 u.2.1 u.2.2.1 u.2.2.2.1 u.2.2.2.2.1 u.2.2.2.2.2) (fun u => (w_X6_build g A_t A_a1 A_t_roofs A_t_roofs_words A_t_ground A_t_ground_words A_a1_kinds A_t_next A_t_lines A_a1_suns A_t_casts A_t_casts_words A_a1_heights A_t_shades A_t_shades_words A_a1_awnings A_a1_awnings_words U_t_queue U_t_steps (.ref A_a1) U_a1_shuts U_a1_water U_a1_walkers U_a1_places U_a1_procession U_a1_told U_a1_awningLines U_a1_shutLines U_a1_waterLines a1_sunLines u.1 u.2.1 a1_kinds u.2.2.1 u.2.2.2.1 a1_suns u.2.2.2.2.1 a1_heights u.2.2.2.2.2 a1_awnings_words)) (fun _ => pl) 0 0 := by
  refine met_v (own := RX6) rfl rfl (Nat.le_of_ble_eq_true rfl) (fun X hg hl C hini hret => ?_)
  subst hg
  subst hl
  exact m_X6_build C (fun w0 w1 w2 w3 w4 w5 pc lo hp hd => hret (w0, w1, w2, w3, w4, w5) pc lo hp hd) hw
abbrev w_X6_lineAt (g : GG) (A_t A_t_lines : Nat) (U_t_shades U_t_casts U_t_roofs U_t_ground U_t_next U_t_queue U_t_steps U_t_town : Value) (t_lines : Nat → Int32) : va_W := [(A_t, ob 6 [.ref A_t_lines, U_t_shades, U_t_casts, U_t_roofs, U_t_ground, U_t_next, U_t_queue, U_t_steps, U_t_town]), (A_t_lines, aI g 480 t_lines)]
set_option maxRecDepth 20000 in
theorem m_X6_lineAt {X : Ctx} {ka : KA} (C : Cok X cX6_lineAt 3 RX6 (rmL 2) (FzC ka)) {pl : Pool} {A_t A_t_lines : Nat} {U_t_shades U_t_casts U_t_roofs U_t_ground U_t_next U_t_queue U_t_steps U_t_town : Value} {t_lines : Nat → Int32} {p1 : Int32} {p2 : Int32} {post : Int32 → Prop} (hret : ∀ (r : Int32) (pc : Nat) (lo : List (Option Value)), post r → decode cX6_lineAt pc = .ok (.ireturn, 1) → AW X 3 0 0 (w_X6_lineAt (cxG X) A_t A_t_lines U_t_shades U_t_casts U_t_roofs U_t_ground U_t_next U_t_queue U_t_steps U_t_town t_lines) pl pc lo [.int r]) (hw : wp_X6_lineAt t_lines p1 p2 post) : AW X 3 0 0 (w_X6_lineAt (cxG X) A_t A_t_lines U_t_shades U_t_casts U_t_roofs U_t_ground U_t_next U_t_queue U_t_steps U_t_town t_lines) pl 0 [some (.ref A_t), some (.int p1), some (.int p2)] [] := by
  replace hw : wp_X11_isTime p1 p2 (fun r2 => (r2 = 0 → (post (-1))) ∧ (¬ r2 = 0 → (wp_X11_row p1 p2 (fun r14 => vp_in r14 480 ∧ (post (t_lines (Int32.toNatClampNeg r14))))))) := hw
  refine a_iload_n (pc := 0) (i := 1) C dX6_lineAt_0 rfl rfl ?_
  refine a_iload_n (pc := 1) (i := 2) C dX6_lineAt_1 rfl rfl ?_
  refine a_callSNi (pc := 2) (As := [.int p1, .int p2]) (st := []) (ws' := (fun _ => (w_X6_lineAt (cxG X) A_t A_t_lines U_t_shades U_t_casts U_t_roofs U_t_ground U_t_next U_t_queue U_t_steps U_t_town t_lines))) C (c_X11_isTime hw) dX6_lineAt_2 mth_X11_isTime nl_X6_107 (fun _ _ h => trivial) Fz0_ok (rml (by decide) (by decide)) (Nat.le_of_ble_eq_true rfl) rfl rfl [] [0, 1] [0, 1] rfl rfl rfl rfl rfl rfl (fun _ => rfl) rfl (fun _ => rfl) (fun r2 u hw => ?_)
  obtain ⟨z_2, hw⟩ := hw
  show AW X 3 0 0 (w_X6_lineAt (cxG X) A_t A_t_lines U_t_shades U_t_casts U_t_roofs U_t_ground U_t_next U_t_queue U_t_steps U_t_town t_lines) pl 5 [some (.ref A_t), some (.int p1), some (.int p2)] [.int r2]
  refine a_if_eq (pc := 5) (tgt := 21) C dX6_lineAt_5 (by decide) (fun c_5 => ?_) (fun c_5 => ?_)
  · replace hw := hw.1 c_5
    refine a_iconst (pc := 21) C dX6_lineAt_21 kc_m1 ?_
    exact hret _ _ _ hw dX6_lineAt_22
  · replace hw := hw.2 c_5
    refine a_aload_n (pc := 8) (i := 0) C dX6_lineAt_8 rfl rfl ?_
    refine a_get (pc := 9) C fl_X6_9 dX6_lineAt_9 0 rfl rfl ?_
    refine a_iload_n (pc := 12) (i := 1) C dX6_lineAt_12 rfl rfl ?_
    refine a_iload_n (pc := 13) (i := 2) C dX6_lineAt_13 rfl rfl ?_
    refine a_callSNi (pc := 14) (As := [.int p1, .int p2]) (st := [.ref A_t_lines]) (ws' := (fun _ => (w_X6_lineAt (cxG X) A_t A_t_lines U_t_shades U_t_casts U_t_roofs U_t_ground U_t_next U_t_queue U_t_steps U_t_town t_lines))) C (c_X11_row hw) dX6_lineAt_14 mth_X11_row nl_X6_111 (fun _ _ h => trivial) Fz0_ok (rml (by decide) (by decide)) (Nat.le_of_ble_eq_true rfl) rfl rfl [] [0, 1] [0, 1] rfl rfl rfl rfl rfl rfl (fun _ => rfl) rfl (fun _ => rfl) (fun r14 u hw => ?_)
    show AW X 3 0 0 (w_X6_lineAt (cxG X) A_t A_t_lines U_t_shades U_t_casts U_t_roofs U_t_ground U_t_next U_t_queue U_t_steps U_t_town t_lines) pl 17 [some (.ref A_t), some (.int p1), some (.int p2)] [.int r14, .ref A_t_lines]
    obtain ⟨i_17, hw⟩ := hw
    refine a_iald (pc := 17) C dX6_lineAt_17 1 rfl i_17 ?_
    refine a_goto (pc := 18) (tgt := 22) C dX6_lineAt_18 (by decide) ?_
    exact hret _ _ _ hw dX6_lineAt_22
theorem c_X6_lineAt {ka : KA} {l : Launch} {g : GG} {pl : Pool} (A_t A_t_lines : Nat) (U_t_shades U_t_casts U_t_roofs U_t_ground U_t_next U_t_queue U_t_steps U_t_town : Value) {t_lines : Nat → Int32} {p1 : Int32} {p2 : Int32} {post : Int32 → Prop} (hw : wp_X6_lineAt t_lines p1 p2 post) : MI l yX6_lineAt cX6_lineAt 3 (some .int) (rmL 2) g (FzC ka) [.ref A_t, .int p1, .int p2] (w_X6_lineAt g A_t A_t_lines U_t_shades U_t_casts U_t_roofs U_t_ground U_t_next U_t_queue U_t_steps U_t_town t_lines) pl (fun r (_ : Unit) => post r) (fun _ => (w_X6_lineAt g A_t A_t_lines U_t_shades U_t_casts U_t_roofs U_t_ground U_t_next U_t_queue U_t_steps U_t_town t_lines)) (fun _ => pl) 0 0 := by
  refine met_i (own := RX6) rfl rfl (Nat.le_of_ble_eq_true rfl) (fun X hg hl C hini hret => ?_)
  subst hg
  subst hl
  exact m_X6_lineAt C (fun r pc lo hp hd => hret r () pc lo hp hd) hw
abbrev w_X6_howDim (g : GG) (A_t A_t_shades A_t_ground A_t_shades_words A_t_ground_words : Nat) (U_t_lines U_t_casts U_t_roofs U_t_next U_t_queue U_t_steps U_t_town : Value) (t_shades_words : Nat → Int64) (t_ground_words : Nat → Int64) : va_W := [(A_t, ob 6 [U_t_lines, .ref A_t_shades, U_t_casts, U_t_roofs, .ref A_t_ground, U_t_next, U_t_queue, U_t_steps, U_t_town]), (A_t_shades, ob 5 [.ref A_t_shades_words]), (A_t_ground, ob 5 [.ref A_t_ground_words]), (A_t_shades_words, aJ g 960 t_shades_words), (A_t_ground_words, aJ g 2 t_ground_words)]
set_option maxRecDepth 20000 in
theorem m_X6_howDim {X : Ctx} (C : Cok X cX6_howDim 2 RX6 (rmL 2) Fz0) {pl : Pool} {A_t A_t_shades A_t_ground A_t_shades_words A_t_ground_words : Nat} {U_t_lines U_t_casts U_t_roofs U_t_next U_t_queue U_t_steps U_t_town : Value} {t_shades_words : Nat → Int64} {t_ground_words : Nat → Int64} {p1 : Int32} {post : Int32 → Prop} (hret : ∀ (r : Int32) (pc : Nat) (lo : List (Option Value)), post r → decode cX6_howDim pc = .ok (.ireturn, 1) → AW X 2 0 0 (w_X6_howDim (cxG X) A_t A_t_shades A_t_ground A_t_shades_words A_t_ground_words U_t_lines U_t_casts U_t_roofs U_t_next U_t_queue U_t_steps U_t_town t_shades_words t_ground_words) pl pc lo [.int r]) (hw : wp_X6_howDim t_shades_words t_ground_words p1 post) : AW X 2 0 0 (w_X6_howDim (cxG X) A_t A_t_shades A_t_ground A_t_shades_words A_t_ground_words U_t_lines U_t_casts U_t_roofs U_t_next U_t_queue U_t_steps U_t_town t_shades_words t_ground_words) pl 0 [some (.ref A_t), some (.int p1)] [] := by
  replace hw : wp_X5_howMany 960 2 t_shades_words t_ground_words p1 (fun r9 => post r9) := hw
  refine a_aload_n (pc := 0) (i := 0) C dX6_howDim_0 rfl rfl ?_
  refine a_get (pc := 1) C fl_X6_20 dX6_howDim_1 0 rfl rfl ?_
  refine a_iload_n (pc := 4) (i := 1) C dX6_howDim_4 rfl rfl ?_
  refine a_aload_n (pc := 5) (i := 0) C dX6_howDim_5 rfl rfl ?_
  refine a_get (pc := 6) C fl_X6_30 dX6_howDim_6 0 rfl rfl ?_
  refine a_callVi (pc := 9) (As := [.int p1, .ref A_t_ground]) (st := []) (ws' := (fun _ => (w_X6_howDim (cxG X) A_t A_t_shades A_t_ground A_t_shades_words A_t_ground_words U_t_lines U_t_casts U_t_roofs U_t_next U_t_queue U_t_steps U_t_town t_shades_words t_ground_words))) C (c_X5_howMany A_t_shades A_t_ground A_t_shades_words A_t_ground_words 960 2 hw) dX6_howDim_9 mth_X5_howMany tml_X6_125 (fun _ _ h => trivial) Fz0_ok (rml (by decide) (by decide)) (Nat.le_of_ble_eq_true rfl) rfl rfl [1, 2, 3, 4] [0] [0, 1, 2, 3, 4] rfl rfl rfl rfl rfl rfl (ci := 5) rfl ⟨0, _, rfl⟩ (fun _ => rfl) rfl (fun _ => rfl) (fun r9 u hw => ?_)
  show AW X 2 0 0 (w_X6_howDim (cxG X) A_t A_t_shades A_t_ground A_t_shades_words A_t_ground_words U_t_lines U_t_casts U_t_roofs U_t_next U_t_queue U_t_steps U_t_town t_shades_words t_ground_words) pl 12 [some (.ref A_t), some (.int p1)] [.int r9]
  exact hret _ _ _ hw dX6_howDim_12
theorem c_X6_howDim {l : Launch} {g : GG} {pl : Pool} (A_t A_t_shades A_t_ground A_t_shades_words A_t_ground_words : Nat) (U_t_lines U_t_casts U_t_roofs U_t_next U_t_queue U_t_steps U_t_town : Value) {t_shades_words : Nat → Int64} {t_ground_words : Nat → Int64} {p1 : Int32} {post : Int32 → Prop} (hw : wp_X6_howDim t_shades_words t_ground_words p1 post) : MI l yX6_howDim cX6_howDim 2 (some .int) (rmL 2) g Fz0 [.ref A_t, .int p1] (w_X6_howDim g A_t A_t_shades A_t_ground A_t_shades_words A_t_ground_words U_t_lines U_t_casts U_t_roofs U_t_next U_t_queue U_t_steps U_t_town t_shades_words t_ground_words) pl (fun r (_ : Unit) => post r) (fun _ => (w_X6_howDim g A_t A_t_shades A_t_ground A_t_shades_words A_t_ground_words U_t_lines U_t_casts U_t_roofs U_t_next U_t_queue U_t_steps U_t_town t_shades_words t_ground_words)) (fun _ => pl) 0 0 := by
  refine met_i (own := RX6) rfl rfl (Nat.le_of_ble_eq_true rfl) (fun X hg hl C hini hret => ?_)
  subst hg
  subst hl
  exact m_X6_howDim C (fun r pc lo hp hd => hret r () pc lo hp hd) hw
abbrev w_X6_howManyOnlyIn (g : GG) (A_t A_t_ground A_t_ground_words A_t_shades A_t_shades_words : Nat) (U_t_lines U_t_casts U_t_roofs U_t_next U_t_queue U_t_steps U_t_town : Value) (t_ground_words : Nat → Int64) (t_shades_words : Nat → Int64) : va_W := [(A_t, ob 6 [U_t_lines, .ref A_t_shades, U_t_casts, U_t_roofs, .ref A_t_ground, U_t_next, U_t_queue, U_t_steps, U_t_town]), (A_t_ground, ob 5 [.ref A_t_ground_words]), (A_t_ground_words, aJ g 2 t_ground_words), (A_t_shades, ob 5 [.ref A_t_shades_words]), (A_t_shades_words, aJ g 960 t_shades_words)]
set_option maxRecDepth 20000 in
theorem m_X6_howManyOnlyIn_L5 {X : Ctx} (C : Cok X cX6_howManyOnlyIn 5 RX6 (rmL 1) Fz0) {pl : Pool} {A_t A_t_ground A_t_ground_words A_t_shades A_t_shades_words : Nat} {U_t_lines U_t_casts U_t_roofs U_t_next U_t_queue U_t_steps U_t_town : Value} {t_ground_words : Nat → Int64} {t_shades_words : Nat → Int64} {post : Int32 → Prop} (hret : ∀ (r : Int32) (pc : Nat) (lo : List (Option Value)), post r → decode cX6_howManyOnlyIn pc = .ok (.ireturn, 1) → AW X 5 0 0 (w_X6_howManyOnlyIn (cxG X) A_t A_t_ground A_t_ground_words A_t_shades A_t_shades_words U_t_lines U_t_casts U_t_roofs U_t_next U_t_queue U_t_steps U_t_town t_ground_words t_shades_words) pl pc lo [.int r]) {x_60 : Int32 → Prop} (hx_60 : ∀ (l3 : Int32) , x_60 l3 → AW X 5 0 0 (w_X6_howManyOnlyIn (cxG X) A_t A_t_ground A_t_ground_words A_t_shades A_t_shades_words U_t_lines U_t_casts U_t_roofs U_t_next U_t_queue U_t_steps U_t_town t_ground_words t_shades_words) pl 60 [none, none, none, some (.int l3), none] []) : ∀ (n5 : Nat) (l1 : Int32) (l2 : Int32) (l3 : Int32) (l4 : Int32) , lp (wp_X6_howManyOnlyIn_L5 x_60 t_ground_words t_shades_words post) n5 (l1, l2, l3, l4) → AW X 5 0 0 (w_X6_howManyOnlyIn (cxG X) A_t A_t_ground A_t_ground_words A_t_shades A_t_shades_words U_t_lines U_t_casts U_t_roofs U_t_next U_t_queue U_t_steps U_t_town t_ground_words t_shades_words) pl 5 [some (.ref A_t), some (.int l1), some (.int l2), some (.int l3), some (.int l4)] [] := by
  intro n5
  induction n5 with
  | zero => exact fun _ _ _ _ hw => hw.elim
  | succ n5 hkb =>
    intro l1 l2 l3 l4 hw
    replace hw : wp_X6_howManyOnlyIn_L5 x_60 t_ground_words t_shades_words post (lp (wp_X6_howManyOnlyIn_L5 x_60 t_ground_words t_shades_words post) n5) (l1, l2, l3, l4) := hw
    generalize lp (wp_X6_howManyOnlyIn_L5 x_60 t_ground_words t_shades_words post) n5 = kb at hw hkb
    refine a_iload (pc := 5) (i := 4) C dX6_howManyOnlyIn_5 rfl ?_
    refine a_bipush (pc := 7) C dX6_howManyOnlyIn_7 kb_100 ?_
    refine a_icmp_ge (pc := 9) (tgt := 60) C dX6_howManyOnlyIn_9 (by decide) (fun c_9 => ?_) (fun c_9 => ?_)
    · replace hw := hw.1 c_9
      refine a_msk [false, false, false, true, false] rfl ?_
      exact hx_60 _ hw
    · replace hw := hw.2 c_9
      refine a_aload_n (pc := 12) (i := 0) C dX6_howManyOnlyIn_12 rfl rfl ?_
      refine a_get (pc := 13) C fl_X6_30 dX6_howManyOnlyIn_13 0 rfl rfl ?_
      refine a_iconst (pc := 16) C dX6_howManyOnlyIn_16 kc_0 ?_
      refine a_iload (pc := 17) (i := 4) C dX6_howManyOnlyIn_17 rfl ?_
      refine a_callVi (pc := 19) (As := [.int 0, .int l4]) (st := []) (ws' := (fun _ => (w_X6_howManyOnlyIn (cxG X) A_t A_t_ground A_t_ground_words A_t_shades A_t_shades_words U_t_lines U_t_casts U_t_roofs U_t_next U_t_queue U_t_steps U_t_town t_ground_words t_shades_words))) C (c_X5_has A_t_ground A_t_ground_words 2 hw) dX6_howManyOnlyIn_19 mth_X5_has tml_X6_129 (fun _ _ h => trivial) Fz0_ok (rml (by decide) (by decide)) (Nat.le_of_ble_eq_true rfl) rfl rfl [1, 2] [0, 3, 4] [0, 3, 4, 1, 2] rfl rfl rfl rfl rfl rfl (ci := 5) rfl ⟨0, _, rfl⟩ (fun _ => rfl) rfl (fun _ => rfl) (fun r19 u hw => ?_)
      obtain ⟨z_19, hw⟩ := hw
      show AW X 5 0 0 (w_X6_howManyOnlyIn (cxG X) A_t A_t_ground A_t_ground_words A_t_shades A_t_shades_words U_t_lines U_t_casts U_t_roofs U_t_next U_t_queue U_t_steps U_t_town t_ground_words t_shades_words) pl 22 [some (.ref A_t), some (.int l1), some (.int l2), some (.int l3), some (.int l4)] [.int r19]
      refine a_if_eq (pc := 22) (tgt := 54) C dX6_howManyOnlyIn_22 (by decide) (fun c_22 => ?_) (fun c_22 => ?_)
      · replace hw := hw.1 c_22
        refine a_inc (pc := 54) (i := 4) C (fun y => [some (.ref A_t), some (.int l1), some (.int l2), some (.int l3), some (.int y)]) dX6_howManyOnlyIn_54 rfl kc_1 (by decide) rfl (fun _ => rfl) (fun y54 e_y54 => ?_)
        replace hw := hw y54 e_y54
        refine a_goto (pc := 57) (tgt := 5) C dX6_howManyOnlyIn_57 (by decide) ?_
        exact hkb _ _ _ _ hw
      · replace hw := hw.2 c_22
        refine a_aload_n (pc := 25) (i := 0) C dX6_howManyOnlyIn_25 rfl rfl ?_
        refine a_get (pc := 26) C fl_X6_20 dX6_howManyOnlyIn_26 0 rfl rfl ?_
        refine a_iload_n (pc := 29) (i := 1) C dX6_howManyOnlyIn_29 rfl rfl ?_
        refine a_iload (pc := 30) (i := 4) C dX6_howManyOnlyIn_30 rfl ?_
        refine a_callVi (pc := 32) (As := [.int l1, .int l4]) (st := []) (ws' := (fun _ => (w_X6_howManyOnlyIn (cxG X) A_t A_t_ground A_t_ground_words A_t_shades A_t_shades_words U_t_lines U_t_casts U_t_roofs U_t_next U_t_queue U_t_steps U_t_town t_ground_words t_shades_words))) C (c_X5_has A_t_shades A_t_shades_words 960 hw) dX6_howManyOnlyIn_32 mth_X5_has tml_X6_129 (fun _ _ h => trivial) Fz0_ok (rml (by decide) (by decide)) (Nat.le_of_ble_eq_true rfl) rfl rfl [3, 4] [0, 1, 2] [0, 1, 2, 3, 4] rfl rfl rfl rfl rfl rfl (ci := 5) rfl ⟨0, _, rfl⟩ (fun _ => rfl) rfl (fun _ => rfl) (fun r32 u hw => ?_)
        obtain ⟨z_32, hw⟩ := hw
        show AW X 5 0 0 (w_X6_howManyOnlyIn (cxG X) A_t A_t_ground A_t_ground_words A_t_shades A_t_shades_words U_t_lines U_t_casts U_t_roofs U_t_next U_t_queue U_t_steps U_t_town t_ground_words t_shades_words) pl 35 [some (.ref A_t), some (.int l1), some (.int l2), some (.int l3), some (.int l4)] [.int r32]
        refine a_if_eq (pc := 35) (tgt := 54) C dX6_howManyOnlyIn_35 (by decide) (fun c_35 => ?_) (fun c_35 => ?_)
        · replace hw := hw.1 c_35
          refine a_inc (pc := 54) (i := 4) C (fun y => [some (.ref A_t), some (.int l1), some (.int l2), some (.int l3), some (.int y)]) dX6_howManyOnlyIn_54 rfl kc_1 (by decide) rfl (fun _ => rfl) (fun y54 e_y54 => ?_)
          replace hw := hw y54 e_y54
          refine a_goto (pc := 57) (tgt := 5) C dX6_howManyOnlyIn_57 (by decide) ?_
          exact hkb _ _ _ _ hw
        · replace hw := hw.2 c_35
          refine a_aload_n (pc := 38) (i := 0) C dX6_howManyOnlyIn_38 rfl rfl ?_
          refine a_get (pc := 39) C fl_X6_20 dX6_howManyOnlyIn_39 0 rfl rfl ?_
          refine a_iload_n (pc := 42) (i := 2) C dX6_howManyOnlyIn_42 rfl rfl ?_
          refine a_iload (pc := 43) (i := 4) C dX6_howManyOnlyIn_43 rfl ?_
          refine a_callVi (pc := 45) (As := [.int l2, .int l4]) (st := []) (ws' := (fun _ => (w_X6_howManyOnlyIn (cxG X) A_t A_t_ground A_t_ground_words A_t_shades A_t_shades_words U_t_lines U_t_casts U_t_roofs U_t_next U_t_queue U_t_steps U_t_town t_ground_words t_shades_words))) C (c_X5_has A_t_shades A_t_shades_words 960 hw) dX6_howManyOnlyIn_45 mth_X5_has tml_X6_129 (fun _ _ h => trivial) Fz0_ok (rml (by decide) (by decide)) (Nat.le_of_ble_eq_true rfl) rfl rfl [3, 4] [0, 1, 2] [0, 1, 2, 3, 4] rfl rfl rfl rfl rfl rfl (ci := 5) rfl ⟨0, _, rfl⟩ (fun _ => rfl) rfl (fun _ => rfl) (fun r45 u hw => ?_)
          obtain ⟨z_45, hw⟩ := hw
          show AW X 5 0 0 (w_X6_howManyOnlyIn (cxG X) A_t A_t_ground A_t_ground_words A_t_shades A_t_shades_words U_t_lines U_t_casts U_t_roofs U_t_next U_t_queue U_t_steps U_t_town t_ground_words t_shades_words) pl 48 [some (.ref A_t), some (.int l1), some (.int l2), some (.int l3), some (.int l4)] [.int r45]
          refine a_if_ne (pc := 48) (tgt := 54) C dX6_howManyOnlyIn_48 (by decide) (fun c_48 => ?_) (fun c_48 => ?_)
          · replace hw := hw.1 c_48
            refine a_inc (pc := 54) (i := 4) C (fun y => [some (.ref A_t), some (.int l1), some (.int l2), some (.int l3), some (.int y)]) dX6_howManyOnlyIn_54 rfl kc_1 (by decide) rfl (fun _ => rfl) (fun y54 e_y54 => ?_)
            replace hw := hw y54 e_y54
            refine a_goto (pc := 57) (tgt := 5) C dX6_howManyOnlyIn_57 (by decide) ?_
            exact hkb _ _ _ _ hw
          · replace hw := hw.2 c_48
            refine a_inc (pc := 51) (i := 3) C (fun y => [some (.ref A_t), some (.int l1), some (.int l2), some (.int y), some (.int l4)]) dX6_howManyOnlyIn_51 rfl kc_1 (by decide) rfl (fun _ => rfl) (fun y51 e_y51 => ?_)
            replace hw := hw y51 e_y51
            refine a_inc (pc := 54) (i := 4) C (fun y => [some (.ref A_t), some (.int l1), some (.int l2), some (.int y51), some (.int y)]) dX6_howManyOnlyIn_54 rfl kc_1 (by decide) rfl (fun _ => rfl) (fun y54 e_y54 => ?_)
            replace hw := hw y54 e_y54
            refine a_goto (pc := 57) (tgt := 5) C dX6_howManyOnlyIn_57 (by decide) ?_
            exact hkb _ _ _ _ hw
set_option maxRecDepth 20000 in
theorem m_X6_howManyOnlyIn {X : Ctx} (C : Cok X cX6_howManyOnlyIn 5 RX6 (rmL 1) Fz0) {pl : Pool} {A_t A_t_ground A_t_ground_words A_t_shades A_t_shades_words : Nat} {U_t_lines U_t_casts U_t_roofs U_t_next U_t_queue U_t_steps U_t_town : Value} {t_ground_words : Nat → Int64} {t_shades_words : Nat → Int64} {p1 : Int32} {p2 : Int32} {post : Int32 → Prop} (hret : ∀ (r : Int32) (pc : Nat) (lo : List (Option Value)), post r → decode cX6_howManyOnlyIn pc = .ok (.ireturn, 1) → AW X 5 0 0 (w_X6_howManyOnlyIn (cxG X) A_t A_t_ground A_t_ground_words A_t_shades A_t_shades_words U_t_lines U_t_casts U_t_roofs U_t_next U_t_queue U_t_steps U_t_town t_ground_words t_shades_words) pl pc lo [.int r]) (hw : wp_X6_howManyOnlyIn t_ground_words t_shades_words p1 p2 post) : AW X 5 0 0 (w_X6_howManyOnlyIn (cxG X) A_t A_t_ground A_t_ground_words A_t_shades A_t_shades_words U_t_lines U_t_casts U_t_roofs U_t_next U_t_queue U_t_steps U_t_town t_ground_words t_shades_words) pl 0 [some (.ref A_t), some (.int p1), some (.int p2), none, none] [] := by
  refine a_iconst (pc := 0) C dX6_howManyOnlyIn_0 kc_0 ?_
  refine s_istore_n (pc := 1) (i := 3) (lo' := [some (.ref A_t), some (.int p1), some (.int p2), some (.int 0), none]) C dX6_howManyOnlyIn_1 rfl (by decide) rfl rfl ?_
  refine a_iconst (pc := 2) C dX6_howManyOnlyIn_2 kc_0 ?_
  refine s_istore (pc := 3) (i := 4) (lo' := [some (.ref A_t), some (.int p1), some (.int p2), some (.int 0), some (.int 0)]) C dX6_howManyOnlyIn_3 (by decide) rfl rfl ?_
  obtain ⟨n5, hw⟩ := hw
  refine m_X6_howManyOnlyIn_L5 C hret (fun l3 hw => ?_) n5 _ _ _ _ hw
  refine a_iload_n (pc := 60) (i := 3) C dX6_howManyOnlyIn_60 rfl rfl ?_
  exact hret _ _ _ hw dX6_howManyOnlyIn_61
theorem c_X6_howManyOnlyIn {l : Launch} {g : GG} {pl : Pool} (A_t A_t_ground A_t_ground_words A_t_shades A_t_shades_words : Nat) (U_t_lines U_t_casts U_t_roofs U_t_next U_t_queue U_t_steps U_t_town : Value) {t_ground_words : Nat → Int64} {t_shades_words : Nat → Int64} {p1 : Int32} {p2 : Int32} {post : Int32 → Prop} (hw : wp_X6_howManyOnlyIn t_ground_words t_shades_words p1 p2 post) : MI l yX6_howManyOnlyIn cX6_howManyOnlyIn 5 (some .int) (rmL 1) g Fz0 [.ref A_t, .int p1, .int p2] (w_X6_howManyOnlyIn g A_t A_t_ground A_t_ground_words A_t_shades A_t_shades_words U_t_lines U_t_casts U_t_roofs U_t_next U_t_queue U_t_steps U_t_town t_ground_words t_shades_words) pl (fun r (_ : Unit) => post r) (fun _ => (w_X6_howManyOnlyIn g A_t A_t_ground A_t_ground_words A_t_shades A_t_shades_words U_t_lines U_t_casts U_t_roofs U_t_next U_t_queue U_t_steps U_t_town t_ground_words t_shades_words)) (fun _ => pl) 0 0 := by
  refine met_i (own := RX6) rfl rfl (Nat.le_of_ble_eq_true rfl) (fun X hg hl C hini hret => ?_)
  subst hg
  subst hl
  exact m_X6_howManyOnlyIn C (fun r pc lo hp hd => hret r () pc lo hp hd) hw
abbrev w_X6_nextTo (g : GG) (A_t A_t_next : Nat) (U_t_lines U_t_shades U_t_casts U_t_roofs U_t_ground U_t_queue U_t_steps U_t_town : Value) (t_next : Nat → Int32) : va_W := [(A_t, ob 6 [U_t_lines, U_t_shades, U_t_casts, U_t_roofs, U_t_ground, .ref A_t_next, U_t_queue, U_t_steps, U_t_town]), (A_t_next, aI g 400 t_next)]
set_option maxRecDepth 20000 in
theorem m_X6_nextTo {X : Ctx} {ka : KA} (C : Cok X cX6_nextTo 3 RX6 (rmL 1) (FzC ka)) {pl : Pool} {A_t A_t_next : Nat} {U_t_lines U_t_shades U_t_casts U_t_roofs U_t_ground U_t_queue U_t_steps U_t_town : Value} {t_next : Nat → Int32} {p1 : Int32} {p2 : Int32} {post : Int32 → Prop} (hret : ∀ (r : Int32) (pc : Nat) (lo : List (Option Value)), post r → decode cX6_nextTo pc = .ok (.ireturn, 1) → AW X 3 0 0 (w_X6_nextTo (cxG X) A_t A_t_next U_t_lines U_t_shades U_t_casts U_t_roofs U_t_ground U_t_queue U_t_steps U_t_town t_next) pl pc lo [.int r]) (hw : wp_X6_nextTo t_next p1 p2 post) : AW X 3 0 0 (w_X6_nextTo (cxG X) A_t A_t_next U_t_lines U_t_shades U_t_casts U_t_roofs U_t_ground U_t_queue U_t_steps U_t_town t_next) pl 0 [some (.ref A_t), some (.int p1), some (.int p2)] [] := by
  replace hw : wp_X11_isSquare p1 (fun r1 => (r1 = 0 → (post (-1))) ∧ (¬ r1 = 0 → ((p2 < 0 → (post (-1))) ∧ (¬ p2 < 0 → ((4 ≤ p2 → (post (-1))) ∧ (¬ 4 ≤ p2 → (∀ x25 : Int32, x25 = ((4 * p1) + p2) → (vp_in x25 400 ∧ (post (t_next (Int32.toNatClampNeg x25))))))))))) := hw
  refine a_iload_n (pc := 0) (i := 1) C dX6_nextTo_0 rfl rfl ?_
  refine a_callSNi (pc := 1) (As := [.int p1]) (st := []) (ws' := (fun _ => (w_X6_nextTo (cxG X) A_t A_t_next U_t_lines U_t_shades U_t_casts U_t_roofs U_t_ground U_t_queue U_t_steps U_t_town t_next))) C (c_X11_isSquare hw) dX6_nextTo_1 mth_X11_isSquare nl_X6_132 (fun _ _ h => trivial) Fz0_ok (rml (by decide) (by decide)) (Nat.le_of_ble_eq_true rfl) rfl rfl [] [0, 1] [0, 1] rfl rfl rfl rfl rfl rfl (fun _ => rfl) rfl (fun _ => rfl) (fun r1 u hw => ?_)
  obtain ⟨z_1, hw⟩ := hw
  show AW X 3 0 0 (w_X6_nextTo (cxG X) A_t A_t_next U_t_lines U_t_shades U_t_casts U_t_roofs U_t_ground U_t_queue U_t_steps U_t_town t_next) pl 4 [some (.ref A_t), some (.int p1), some (.int p2)] [.int r1]
  refine a_if_eq (pc := 4) (tgt := 29) C dX6_nextTo_4 (by decide) (fun c_4 => ?_) (fun c_4 => ?_)
  · replace hw := hw.1 c_4
    refine a_iconst (pc := 29) C dX6_nextTo_29 kc_m1 ?_
    exact hret _ _ _ hw dX6_nextTo_30
  · replace hw := hw.2 c_4
    refine a_iload_n (pc := 7) (i := 2) C dX6_nextTo_7 rfl rfl ?_
    refine a_if_lt (pc := 8) (tgt := 29) C dX6_nextTo_8 (by decide) (fun c_8 => ?_) (fun c_8 => ?_)
    · replace hw := hw.1 c_8
      refine a_iconst (pc := 29) C dX6_nextTo_29 kc_m1 ?_
      exact hret _ _ _ hw dX6_nextTo_30
    · replace hw := hw.2 c_8
      refine a_iload_n (pc := 11) (i := 2) C dX6_nextTo_11 rfl rfl ?_
      refine a_iconst (pc := 12) C dX6_nextTo_12 kc_4 ?_
      refine a_icmp_ge (pc := 13) (tgt := 29) C dX6_nextTo_13 (by decide) (fun c_13 => ?_) (fun c_13 => ?_)
      · replace hw := hw.1 c_13
        refine a_iconst (pc := 29) C dX6_nextTo_29 kc_m1 ?_
        exact hret _ _ _ hw dX6_nextTo_30
      · replace hw := hw.2 c_13
        refine a_aload_n (pc := 16) (i := 0) C dX6_nextTo_16 rfl rfl ?_
        refine a_get (pc := 17) C fl_X6_33 dX6_nextTo_17 0 rfl rfl ?_
        refine a_iconst (pc := 20) C dX6_nextTo_20 kc_4 ?_
        refine a_iload_n (pc := 21) (i := 1) C dX6_nextTo_21 rfl rfl ?_
        refine a_imul (pc := 22) C dX6_nextTo_22 ?_
        refine a_iload_n (pc := 23) (i := 2) C dX6_nextTo_23 rfl rfl ?_
        refine a_iadd (pc := 24) C dX6_nextTo_24 ?_
        refine a_topi (fun x25 e_x25 => ?_)
        replace hw := hw x25 e_x25
        obtain ⟨i_25, hw⟩ := hw
        refine a_iald (pc := 25) C dX6_nextTo_25 1 rfl i_25 ?_
        refine a_goto (pc := 26) (tgt := 30) C dX6_nextTo_26 (by decide) ?_
        exact hret _ _ _ hw dX6_nextTo_30
theorem c_X6_nextTo {ka : KA} {l : Launch} {g : GG} {pl : Pool} (A_t A_t_next : Nat) (U_t_lines U_t_shades U_t_casts U_t_roofs U_t_ground U_t_queue U_t_steps U_t_town : Value) {t_next : Nat → Int32} {p1 : Int32} {p2 : Int32} {post : Int32 → Prop} (hw : wp_X6_nextTo t_next p1 p2 post) : MI l yX6_nextTo cX6_nextTo 3 (some .int) (rmL 1) g (FzC ka) [.ref A_t, .int p1, .int p2] (w_X6_nextTo g A_t A_t_next U_t_lines U_t_shades U_t_casts U_t_roofs U_t_ground U_t_queue U_t_steps U_t_town t_next) pl (fun r (_ : Unit) => post r) (fun _ => (w_X6_nextTo g A_t A_t_next U_t_lines U_t_shades U_t_casts U_t_roofs U_t_ground U_t_queue U_t_steps U_t_town t_next)) (fun _ => pl) 0 0 := by
  refine met_i (own := RX6) rfl rfl (Nat.le_of_ble_eq_true rfl) (fun X hg hl C hini hret => ?_)
  subst hg
  subst hl
  exact m_X6_nextTo C (fun r pc lo hp hd => hret r () pc lo hp hd) hw
abbrev w_X6_isNext (g : GG) (A_t A_t_next : Nat) (U_t_lines U_t_shades U_t_casts U_t_roofs U_t_ground U_t_queue U_t_steps U_t_town : Value) (t_next : Nat → Int32) : va_W := [(A_t, ob 6 [U_t_lines, U_t_shades, U_t_casts, U_t_roofs, U_t_ground, .ref A_t_next, U_t_queue, U_t_steps, U_t_town]), (A_t_next, aI g 400 t_next)]
set_option maxRecDepth 20000 in
theorem m_X6_isNext_L2 {X : Ctx} {ka : KA} (C : Cok X cX6_isNext 4 RX6 (rmL 2) (FzC ka)) {pl : Pool} {A_t A_t_next : Nat} {U_t_lines U_t_shades U_t_casts U_t_roofs U_t_ground U_t_queue U_t_steps U_t_town : Value} {t_next : Nat → Int32} {post : Int32 → Prop} (hret : ∀ (r : Int32) (pc : Nat) (lo : List (Option Value)), b01 r → post r → decode cX6_isNext pc = .ok (.ireturn, 1) → AW X 4 0 0 (w_X6_isNext (cxG X) A_t A_t_next U_t_lines U_t_shades U_t_casts U_t_roofs U_t_ground U_t_queue U_t_steps U_t_town t_next) pl pc lo [.int r]) {x_21 : Prop} {x_29 : Prop} (hx_29 : x_29  → AW X 4 0 0 (w_X6_isNext (cxG X) A_t A_t_next U_t_lines U_t_shades U_t_casts U_t_roofs U_t_ground U_t_queue U_t_steps U_t_town t_next) pl 29 [none, none, none, none] []) (hx_21 : x_21  → AW X 4 0 0 (w_X6_isNext (cxG X) A_t A_t_next U_t_lines U_t_shades U_t_casts U_t_roofs U_t_ground U_t_queue U_t_steps U_t_town t_next) pl 21 [none, none, none, none] []) : ∀ (n2 : Nat) (l1 : Int32) (l2 : Int32) (l3 : Int32) , lp (wp_X6_isNext_L2 x_29 x_21 t_next post) n2 (l1, l2, l3) → AW X 4 0 0 (w_X6_isNext (cxG X) A_t A_t_next U_t_lines U_t_shades U_t_casts U_t_roofs U_t_ground U_t_queue U_t_steps U_t_town t_next) pl 2 [some (.ref A_t), some (.int l1), some (.int l2), some (.int l3)] [] := by
  intro n2
  induction n2 with
  | zero => exact fun _ _ _ hw => hw.elim
  | succ n2 hkb =>
    intro l1 l2 l3 hw
    replace hw : wp_X6_isNext_L2 x_29 x_21 t_next post (lp (wp_X6_isNext_L2 x_29 x_21 t_next post) n2) (l1, l2, l3) := hw
    generalize lp (wp_X6_isNext_L2 x_29 x_21 t_next post) n2 = kb at hw hkb
    refine a_iload_n (pc := 2) (i := 3) C dX6_isNext_2 rfl rfl ?_
    refine a_iconst (pc := 3) C dX6_isNext_3 kc_4 ?_
    refine a_icmp_ge (pc := 4) (tgt := 29) C dX6_isNext_4 (by decide) (fun c_4 => ?_) (fun c_4 => ?_)
    · replace hw := hw.1 c_4
      refine a_msk [false, false, false, false] rfl ?_
      exact hx_29  hw
    · replace hw := hw.2 c_4
      refine a_iload_n (pc := 7) (i := 2) C dX6_isNext_7 rfl rfl ?_
      refine a_if_lt (pc := 8) (tgt := 23) C dX6_isNext_8 (by decide) (fun c_8 => ?_) (fun c_8 => ?_)
      · replace hw := hw.1 c_8
        refine a_inc (pc := 23) (i := 3) C (fun y => [some (.ref A_t), some (.int l1), some (.int l2), some (.int y)]) dX6_isNext_23 rfl kc_1 (by decide) rfl (fun _ => rfl) (fun y23 e_y23 => ?_)
        replace hw := hw y23 e_y23
        refine a_goto (pc := 26) (tgt := 2) C dX6_isNext_26 (by decide) ?_
        exact hkb _ _ _ hw
      · replace hw := hw.2 c_8
        refine a_aload_n (pc := 11) (i := 0) C dX6_isNext_11 rfl rfl ?_
        refine a_iload_n (pc := 12) (i := 1) C dX6_isNext_12 rfl rfl ?_
        refine a_iload_n (pc := 13) (i := 3) C dX6_isNext_13 rfl rfl ?_
        refine a_callVi (pc := 14) (As := [.int l1, .int l3]) (st := []) (ws' := (fun _ => (w_X6_isNext (cxG X) A_t A_t_next U_t_lines U_t_shades U_t_casts U_t_roofs U_t_ground U_t_queue U_t_steps U_t_town t_next))) C (c_X6_nextTo A_t A_t_next U_t_lines U_t_shades U_t_casts U_t_roofs U_t_ground U_t_queue U_t_steps U_t_town hw) dX6_isNext_14 mth_X6_nextTo tml_X6_135 (fun _ _ h => h) (FzC_ok ka) (rml (by decide) (by decide)) (Nat.le_of_ble_eq_true rfl) rfl rfl [0, 1] [] [0, 1] rfl rfl rfl rfl rfl rfl (ci := 6) rfl ⟨0, _, rfl⟩ (fun _ => rfl) rfl (fun _ => rfl) (fun r14 u hw => ?_)
        show AW X 4 0 0 (w_X6_isNext (cxG X) A_t A_t_next U_t_lines U_t_shades U_t_casts U_t_roofs U_t_ground U_t_queue U_t_steps U_t_town t_next) pl 17 [some (.ref A_t), some (.int l1), some (.int l2), some (.int l3)] [.int r14]
        refine a_iload_n (pc := 17) (i := 2) C dX6_isNext_17 rfl rfl ?_
        refine a_icmp_ne (pc := 18) (tgt := 23) C dX6_isNext_18 (by decide) (fun c_18 => ?_) (fun c_18 => ?_)
        · replace hw := hw.1 c_18
          refine a_inc (pc := 23) (i := 3) C (fun y => [some (.ref A_t), some (.int l1), some (.int l2), some (.int y)]) dX6_isNext_23 rfl kc_1 (by decide) rfl (fun _ => rfl) (fun y23 e_y23 => ?_)
          replace hw := hw y23 e_y23
          refine a_goto (pc := 26) (tgt := 2) C dX6_isNext_26 (by decide) ?_
          exact hkb _ _ _ hw
        · replace hw := hw.2 c_18
          refine a_msk [false, false, false, false] rfl ?_
          exact hx_21  hw
set_option maxRecDepth 20000 in
theorem m_X6_isNext {X : Ctx} {ka : KA} (C : Cok X cX6_isNext 4 RX6 (rmL 2) (FzC ka)) {pl : Pool} {A_t A_t_next : Nat} {U_t_lines U_t_shades U_t_casts U_t_roofs U_t_ground U_t_queue U_t_steps U_t_town : Value} {t_next : Nat → Int32} {p1 : Int32} {p2 : Int32} {post : Int32 → Prop} (hret : ∀ (r : Int32) (pc : Nat) (lo : List (Option Value)), b01 r → post r → decode cX6_isNext pc = .ok (.ireturn, 1) → AW X 4 0 0 (w_X6_isNext (cxG X) A_t A_t_next U_t_lines U_t_shades U_t_casts U_t_roofs U_t_ground U_t_queue U_t_steps U_t_town t_next) pl pc lo [.int r]) (hw : wp_X6_isNext t_next p1 p2 post) : AW X 4 0 0 (w_X6_isNext (cxG X) A_t A_t_next U_t_lines U_t_shades U_t_casts U_t_roofs U_t_ground U_t_queue U_t_steps U_t_town t_next) pl 0 [some (.ref A_t), some (.int p1), some (.int p2), none] [] := by
  refine a_iconst (pc := 0) C dX6_isNext_0 kc_0 ?_
  refine s_istore_n (pc := 1) (i := 3) (lo' := [some (.ref A_t), some (.int p1), some (.int p2), some (.int 0)]) C dX6_isNext_1 rfl (by decide) rfl rfl ?_
  obtain ⟨n2, hw⟩ := hw
  refine m_X6_isNext_L2 C hret (fun hw => ?_) (fun hw => ?_) n2 _ _ _ hw
  · refine a_iconst (pc := 29) C dX6_isNext_29 kc_0 ?_
    exact hret _ _ _ (Or.inl rfl) hw dX6_isNext_30
  · refine a_iconst (pc := 21) C dX6_isNext_21 kc_1 ?_
    exact hret _ _ _ (Or.inr rfl) hw dX6_isNext_22
theorem c_X6_isNext {ka : KA} {l : Launch} {g : GG} {pl : Pool} (A_t A_t_next : Nat) (U_t_lines U_t_shades U_t_casts U_t_roofs U_t_ground U_t_queue U_t_steps U_t_town : Value) {t_next : Nat → Int32} {p1 : Int32} {p2 : Int32} {post : Int32 → Prop} (hw : wp_X6_isNext t_next p1 p2 post) : MI l yX6_isNext cX6_isNext 4 (some .boolean) (rmL 2) g (FzC ka) [.ref A_t, .int p1, .int p2] (w_X6_isNext g A_t A_t_next U_t_lines U_t_shades U_t_casts U_t_roofs U_t_ground U_t_queue U_t_steps U_t_town t_next) pl (fun r (_ : Unit) => b01 r ∧ post r) (fun _ => (w_X6_isNext g A_t A_t_next U_t_lines U_t_shades U_t_casts U_t_roofs U_t_ground U_t_queue U_t_steps U_t_town t_next)) (fun _ => pl) 0 0 := by
  refine mi_b01 ?_
  refine met_z (own := RX6) rfl rfl (Nat.le_of_ble_eq_true rfl) (fun X hg hl C hini hret => ?_)
  subst hg
  subst hl
  exact m_X6_isNext C (fun r pc lo z hp hd => hret r () pc lo (b01_nar z) hp hd) hw
abbrev w_X6_fewestSteps (g : GG) (A_t A_t_steps A_t_queue A_t_next : Nat) (U_t_lines U_t_shades U_t_casts U_t_roofs U_t_ground U_t_town : Value) (t_steps : Nat → Int32) (t_queue : Nat → Int32) (t_next : Nat → Int32) : va_W := [(A_t, ob 6 [U_t_lines, U_t_shades, U_t_casts, U_t_roofs, U_t_ground, .ref A_t_next, .ref A_t_queue, .ref A_t_steps, U_t_town]), (A_t_steps, aI g 100 t_steps), (A_t_queue, aI g 100 t_queue), (A_t_next, aI g 400 t_next)]
set_option maxRecDepth 20000 in
theorem m_X6_fewestSteps_L59 {X : Ctx} {ka : KA} (C : Cok X cX6_fewestSteps 7 RX6 (rmL 2) (FzC ka)) {pl : Pool} {A_t A_t_steps A_t_queue A_t_next : Nat} {U_t_lines U_t_shades U_t_casts U_t_roofs U_t_ground U_t_town : Value} {t_next : Nat → Int32} {post : Int32 → (Nat → Int32) → (Nat → Int32) → Prop} (hret : ∀ (r : Int32) (w0 : Nat → Int32) (w1 : Nat → Int32) (pc : Nat) (lo : List (Option Value)), post r w0 w1 → decode cX6_fewestSteps pc = .ok (.ireturn, 1) → AW X 7 0 0 (w_X6_fewestSteps (cxG X) A_t A_t_steps A_t_queue A_t_next U_t_lines U_t_shades U_t_casts U_t_roofs U_t_ground U_t_town w0 w1 t_next) pl pc lo [.int r]) {x_140 : (Nat → Int32) → (Nat → Int32) → Int32 → Int32 → Int32 → Prop} (hx_140 : ∀ (t_steps : Nat → Int32) (t_queue : Nat → Int32) (l2 : Int32) (l3 : Int32) (l4 : Int32) , x_140 t_steps t_queue l2 l3 l4 → AW X 7 0 0 (w_X6_fewestSteps (cxG X) A_t A_t_steps A_t_queue A_t_next U_t_lines U_t_shades U_t_casts U_t_roofs U_t_ground U_t_town t_steps t_queue t_next) pl 140 [some (.ref A_t), none, some (.int l2), some (.int l3), some (.int l4), none, none] []) : ∀ (n59 : Nat) (t_steps : Nat → Int32) (t_queue : Nat → Int32) (l2 : Int32) (l3 : Int32) (l4 : Int32) (l5 : Int32) , lp (wp_X6_fewestSteps_L59 x_140 t_next post) n59 (t_steps, t_queue, l2, l3, l4, l5) → AW X 7 0 0 (w_X6_fewestSteps (cxG X) A_t A_t_steps A_t_queue A_t_next U_t_lines U_t_shades U_t_casts U_t_roofs U_t_ground U_t_town t_steps t_queue t_next) pl 59 [some (.ref A_t), none, some (.int l2), some (.int l3), some (.int l4), some (.int l5), none] [] := by
  intro n59
  induction n59 with
  | zero => exact fun _ _ _ _ _ _ hw => hw.elim
  | succ n59 hkb =>
    intro t_steps t_queue l2 l3 l4 l5 hw
    replace hw : wp_X6_fewestSteps_L59 x_140 t_next post (lp (wp_X6_fewestSteps_L59 x_140 t_next post) n59) (t_steps, t_queue, l2, l3, l4, l5) := hw
    generalize lp (wp_X6_fewestSteps_L59 x_140 t_next post) n59 = kb at hw hkb
    refine a_iload (pc := 59) (i := 5) C dX6_fewestSteps_59 rfl ?_
    refine a_iconst (pc := 61) C dX6_fewestSteps_61 kc_4 ?_
    refine a_icmp_ge (pc := 62) (tgt := 140) C dX6_fewestSteps_62 (by decide) (fun c_62 => ?_) (fun c_62 => ?_)
    · replace hw := hw.1 c_62
      refine a_msk [true, true, true, true, true, false, true] rfl ?_
      exact hx_140 _ _ _ _ _ hw
    · replace hw := hw.2 c_62
      refine a_aload_n (pc := 65) (i := 0) C dX6_fewestSteps_65 rfl rfl ?_
      refine a_aload_n (pc := 66) (i := 0) C dX6_fewestSteps_66 rfl rfl ?_
      refine a_get (pc := 67) C fl_X6_36 dX6_fewestSteps_67 0 rfl rfl ?_
      refine a_iload (pc := 70) (i := 4) C dX6_fewestSteps_70 rfl ?_
      obtain ⟨i_72, hw⟩ := hw
      refine a_iald (pc := 72) C dX6_fewestSteps_72 2 rfl i_72 ?_
      refine a_iload (pc := 73) (i := 5) C dX6_fewestSteps_73 rfl ?_
      refine a_callVi (pc := 75) (As := [.int (t_queue (Int32.toNatClampNeg l4)), .int l5]) (st := []) (ws' := (fun _ => (w_X6_fewestSteps (cxG X) A_t A_t_steps A_t_queue A_t_next U_t_lines U_t_shades U_t_casts U_t_roofs U_t_ground U_t_town t_steps t_queue t_next))) C (c_X6_nextTo A_t A_t_next U_t_lines U_t_shades U_t_casts U_t_roofs U_t_ground (.ref A_t_queue) (.ref A_t_steps) U_t_town hw) dX6_fewestSteps_75 mth_X6_nextTo tml_X6_135 (fun _ _ h => h) (FzC_ok ka) (rml (by decide) (by decide)) (Nat.le_of_ble_eq_true rfl) rfl rfl [0, 3] [1, 2] [2, 0, 1, 3] rfl rfl rfl rfl rfl rfl (ci := 6) rfl ⟨0, _, rfl⟩ (fun _ => rfl) rfl (fun _ => rfl) (fun r75 u hw => ?_)
      show AW X 7 0 0 (w_X6_fewestSteps (cxG X) A_t A_t_steps A_t_queue A_t_next U_t_lines U_t_shades U_t_casts U_t_roofs U_t_ground U_t_town t_steps t_queue t_next) pl 78 [some (.ref A_t), none, some (.int l2), some (.int l3), some (.int l4), some (.int l5), none] [.int r75]
      refine s_istore (pc := 78) (i := 6) (lo' := [some (.ref A_t), none, some (.int l2), some (.int l3), some (.int l4), some (.int l5), some (.int r75)]) C dX6_fewestSteps_78 (by decide) rfl rfl ?_
      refine a_iload (pc := 80) (i := 6) C dX6_fewestSteps_80 rfl ?_
      refine a_if_lt (pc := 82) (tgt := 134) C dX6_fewestSteps_82 (by decide) (fun c_82 => ?_) (fun c_82 => ?_)
      · replace hw := hw.1 c_82
        refine a_inc (pc := 134) (i := 5) C (fun y => [some (.ref A_t), none, some (.int l2), some (.int l3), some (.int l4), some (.int y), some (.int r75)]) dX6_fewestSteps_134 rfl kc_1 (by decide) rfl (fun _ => rfl) (fun y134 e_y134 => ?_)
        replace hw := hw y134 e_y134
        refine a_goto (pc := 137) (tgt := 59) C dX6_fewestSteps_137 (by decide) ?_
        refine a_msk [true, true, true, true, true, true, false] rfl ?_
        exact hkb _ _ _ _ _ _ hw
      · replace hw := hw.2 c_82
        refine a_aload_n (pc := 85) (i := 0) C dX6_fewestSteps_85 rfl rfl ?_
        refine a_get (pc := 86) C fl_X6_39 dX6_fewestSteps_86 0 rfl rfl ?_
        refine a_iload (pc := 89) (i := 6) C dX6_fewestSteps_89 rfl ?_
        obtain ⟨i_91, hw⟩ := hw
        refine a_iald (pc := 91) C dX6_fewestSteps_91 1 rfl i_91 ?_
        refine a_iconst (pc := 92) C dX6_fewestSteps_92 kc_m1 ?_
        refine a_icmp_ne (pc := 93) (tgt := 134) C dX6_fewestSteps_93 (by decide) (fun c_93 => ?_) (fun c_93 => ?_)
        · replace hw := hw.1 c_93
          refine a_inc (pc := 134) (i := 5) C (fun y => [some (.ref A_t), none, some (.int l2), some (.int l3), some (.int l4), some (.int y), some (.int r75)]) dX6_fewestSteps_134 rfl kc_1 (by decide) rfl (fun _ => rfl) (fun y134 e_y134 => ?_)
          replace hw := hw y134 e_y134
          refine a_goto (pc := 137) (tgt := 59) C dX6_fewestSteps_137 (by decide) ?_
          refine a_msk [true, true, true, true, true, true, false] rfl ?_
          exact hkb _ _ _ _ _ _ hw
        · replace hw := hw.2 c_93
          refine a_iload_n (pc := 96) (i := 3) C dX6_fewestSteps_96 rfl rfl ?_
          refine a_bipush (pc := 97) C dX6_fewestSteps_97 kb_100 ?_
          refine a_icmp_ge (pc := 99) (tgt := 134) C dX6_fewestSteps_99 (by decide) (fun c_99 => ?_) (fun c_99 => ?_)
          · replace hw := hw.1 c_99
            refine a_inc (pc := 134) (i := 5) C (fun y => [some (.ref A_t), none, some (.int l2), some (.int l3), some (.int l4), some (.int y), some (.int r75)]) dX6_fewestSteps_134 rfl kc_1 (by decide) rfl (fun _ => rfl) (fun y134 e_y134 => ?_)
            replace hw := hw y134 e_y134
            refine a_goto (pc := 137) (tgt := 59) C dX6_fewestSteps_137 (by decide) ?_
            refine a_msk [true, true, true, true, true, true, false] rfl ?_
            exact hkb _ _ _ _ _ _ hw
          · replace hw := hw.2 c_99
            refine a_aload_n (pc := 102) (i := 0) C dX6_fewestSteps_102 rfl rfl ?_
            refine a_get (pc := 103) C fl_X6_39 dX6_fewestSteps_103 0 rfl rfl ?_
            refine a_iload (pc := 106) (i := 6) C dX6_fewestSteps_106 rfl ?_
            refine a_aload_n (pc := 108) (i := 0) C dX6_fewestSteps_108 rfl rfl ?_
            refine a_get (pc := 109) C fl_X6_39 dX6_fewestSteps_109 0 rfl rfl ?_
            refine a_aload_n (pc := 112) (i := 0) C dX6_fewestSteps_112 rfl rfl ?_
            refine a_get (pc := 113) C fl_X6_36 dX6_fewestSteps_113 0 rfl rfl ?_
            refine a_iload (pc := 116) (i := 4) C dX6_fewestSteps_116 rfl ?_
            obtain ⟨i_118, hw⟩ := hw
            refine a_iald (pc := 118) C dX6_fewestSteps_118 2 rfl i_118 ?_
            refine a_topi (fun x119 e_x119 => ?_)
            replace hw := hw x119 e_x119
            obtain ⟨i_119, hw⟩ := hw
            refine a_iald (pc := 119) C dX6_fewestSteps_119 1 rfl i_119 ?_
            refine a_iconst (pc := 120) C dX6_fewestSteps_120 kc_1 ?_
            refine a_iadd (pc := 121) C dX6_fewestSteps_121 ?_
            refine a_topi (fun x122 e_x122 => ?_)
            replace hw := hw x122 e_x122
            obtain ⟨i_122, hw⟩ := hw
            refine a_iastW (pc := 122) C (fun h => (w_X6_fewestSteps (cxG X) A_t A_t_steps A_t_queue A_t_next U_t_lines U_t_shades U_t_casts U_t_roofs U_t_ground U_t_town h t_queue t_next)) dX6_fewestSteps_122 1 rfl i_122 (fun _ => rfl) (fun t_steps_122 e_t_steps_122 => ?_)
            replace hw := hw t_steps_122 e_t_steps_122
            refine a_aload_n (pc := 123) (i := 0) C dX6_fewestSteps_123 rfl rfl ?_
            refine a_get (pc := 124) C fl_X6_36 dX6_fewestSteps_124 0 rfl rfl ?_
            refine a_iload_n (pc := 127) (i := 3) C dX6_fewestSteps_127 rfl rfl ?_
            refine a_iload (pc := 128) (i := 6) C dX6_fewestSteps_128 rfl ?_
            obtain ⟨i_130, hw⟩ := hw
            refine a_iastW (pc := 130) C (fun h => (w_X6_fewestSteps (cxG X) A_t A_t_steps A_t_queue A_t_next U_t_lines U_t_shades U_t_casts U_t_roofs U_t_ground U_t_town t_steps_122 h t_next)) dX6_fewestSteps_130 2 rfl i_130 (fun _ => rfl) (fun t_queue_130 e_t_queue_130 => ?_)
            replace hw := hw t_queue_130 e_t_queue_130
            refine a_inc (pc := 131) (i := 3) C (fun y => [some (.ref A_t), none, some (.int l2), some (.int y), some (.int l4), some (.int l5), some (.int r75)]) dX6_fewestSteps_131 rfl kc_1 (by decide) rfl (fun _ => rfl) (fun y131 e_y131 => ?_)
            replace hw := hw y131 e_y131
            refine a_inc (pc := 134) (i := 5) C (fun y => [some (.ref A_t), none, some (.int l2), some (.int y131), some (.int l4), some (.int y), some (.int r75)]) dX6_fewestSteps_134 rfl kc_1 (by decide) rfl (fun _ => rfl) (fun y134 e_y134 => ?_)
            replace hw := hw y134 e_y134
            refine a_goto (pc := 137) (tgt := 59) C dX6_fewestSteps_137 (by decide) ?_
            refine a_msk [true, true, true, true, true, true, false] rfl ?_
            exact hkb _ _ _ _ _ _ hw
set_option maxRecDepth 20000 in
theorem m_X6_fewestSteps_L43 {X : Ctx} {ka : KA} (C : Cok X cX6_fewestSteps 7 RX6 (rmL 2) (FzC ka)) {pl : Pool} {A_t A_t_steps A_t_queue A_t_next : Nat} {U_t_lines U_t_shades U_t_casts U_t_roofs U_t_ground U_t_town : Value} {t_next : Nat → Int32} {post : Int32 → (Nat → Int32) → (Nat → Int32) → Prop} (hret : ∀ (r : Int32) (w0 : Nat → Int32) (w1 : Nat → Int32) (pc : Nat) (lo : List (Option Value)), post r w0 w1 → decode cX6_fewestSteps pc = .ok (.ireturn, 1) → AW X 7 0 0 (w_X6_fewestSteps (cxG X) A_t A_t_steps A_t_queue A_t_next U_t_lines U_t_shades U_t_casts U_t_roofs U_t_ground U_t_town w0 w1 t_next) pl pc lo [.int r]) {x_146 : (Nat → Int32) → (Nat → Int32) → Int32 → Prop} (hx_146 : ∀ (t_steps : Nat → Int32) (t_queue : Nat → Int32) (l2 : Int32) , x_146 t_steps t_queue l2 → AW X 7 0 0 (w_X6_fewestSteps (cxG X) A_t A_t_steps A_t_queue A_t_next U_t_lines U_t_shades U_t_casts U_t_roofs U_t_ground U_t_town t_steps t_queue t_next) pl 146 [some (.ref A_t), none, some (.int l2), none, none, none, none] []) : ∀ (n43 : Nat) (t_steps : Nat → Int32) (t_queue : Nat → Int32) (l2 : Int32) (l3 : Int32) (l4 : Int32) , lp (wp_X6_fewestSteps_L43 x_146 t_next post) n43 (t_steps, t_queue, l2, l3, l4) → AW X 7 0 0 (w_X6_fewestSteps (cxG X) A_t A_t_steps A_t_queue A_t_next U_t_lines U_t_shades U_t_casts U_t_roofs U_t_ground U_t_town t_steps t_queue t_next) pl 43 [some (.ref A_t), none, some (.int l2), some (.int l3), some (.int l4), none, none] [] := by
  intro n43
  induction n43 with
  | zero => exact fun _ _ _ _ _ hw => hw.elim
  | succ n43 hkb =>
    intro t_steps t_queue l2 l3 l4 hw
    replace hw : wp_X6_fewestSteps_L43 x_146 t_next post (lp (wp_X6_fewestSteps_L43 x_146 t_next post) n43) (t_steps, t_queue, l2, l3, l4) := hw
    generalize lp (wp_X6_fewestSteps_L43 x_146 t_next post) n43 = kb at hw hkb
    refine a_iload (pc := 43) (i := 4) C dX6_fewestSteps_43 rfl ?_
    refine a_iload_n (pc := 45) (i := 3) C dX6_fewestSteps_45 rfl rfl ?_
    refine a_icmp_ge (pc := 46) (tgt := 146) C dX6_fewestSteps_46 (by decide) (fun c_46 => ?_) (fun c_46 => ?_)
    · replace hw := hw.1 c_46
      refine a_msk [true, true, true, false, false, true, true] rfl ?_
      exact hx_146 _ _ _ hw
    · replace hw := hw.2 c_46
      refine a_iload (pc := 49) (i := 4) C dX6_fewestSteps_49 rfl ?_
      refine a_bipush (pc := 51) C dX6_fewestSteps_51 kb_100 ?_
      refine a_icmp_ge (pc := 53) (tgt := 146) C dX6_fewestSteps_53 (by decide) (fun c_53 => ?_) (fun c_53 => ?_)
      · replace hw := hw.1 c_53
        refine a_msk [true, true, true, false, false, true, true] rfl ?_
        exact hx_146 _ _ _ hw
      · replace hw := hw.2 c_53
        refine a_iconst (pc := 56) C dX6_fewestSteps_56 kc_0 ?_
        refine s_istore (pc := 57) (i := 5) (lo' := [some (.ref A_t), none, some (.int l2), some (.int l3), some (.int l4), some (.int 0), none]) C dX6_fewestSteps_57 (by decide) rfl rfl ?_
        obtain ⟨n59, hw⟩ := hw
        refine m_X6_fewestSteps_L59 C hret (fun t_steps t_queue l2 l3 l4 hw => ?_) n59 _ _ _ _ _ _ hw
        refine a_inc (pc := 140) (i := 4) C (fun y => [some (.ref A_t), none, some (.int l2), some (.int l3), some (.int y), none, none]) dX6_fewestSteps_140 rfl kc_1 (by decide) rfl (fun _ => rfl) (fun y140 e_y140 => ?_)
        replace hw := hw y140 e_y140
        refine a_goto (pc := 143) (tgt := 43) C dX6_fewestSteps_143 (by decide) ?_
        exact hkb _ _ _ _ _ hw
set_option maxRecDepth 20000 in
theorem m_X6_fewestSteps {X : Ctx} {ka : KA} (C : Cok X cX6_fewestSteps 7 RX6 (rmL 2) (FzC ka)) {pl : Pool} {A_t A_t_steps A_t_queue A_t_next : Nat} {U_t_lines U_t_shades U_t_casts U_t_roofs U_t_ground U_t_town : Value} {t_next : Nat → Int32} {t_steps : Nat → Int32} {t_queue : Nat → Int32} {p1 : Int32} {p2 : Int32} {post : Int32 → (Nat → Int32) → (Nat → Int32) → Prop} (hret : ∀ (r : Int32) (w0 : Nat → Int32) (w1 : Nat → Int32) (pc : Nat) (lo : List (Option Value)), post r w0 w1 → decode cX6_fewestSteps pc = .ok (.ireturn, 1) → AW X 7 0 0 (w_X6_fewestSteps (cxG X) A_t A_t_steps A_t_queue A_t_next U_t_lines U_t_shades U_t_casts U_t_roofs U_t_ground U_t_town w0 w1 t_next) pl pc lo [.int r]) (hw : wp_X6_fewestSteps t_next t_steps t_queue p1 p2 post) : AW X 7 0 0 (w_X6_fewestSteps (cxG X) A_t A_t_steps A_t_queue A_t_next U_t_lines U_t_shades U_t_casts U_t_roofs U_t_ground U_t_town t_steps t_queue t_next) pl 0 [some (.ref A_t), some (.int p1), some (.int p2), none, none, none, none] [] := by
  replace hw : wp_X11_isSquare p1 (fun r1 => (r1 = 0 → (post (-1) t_steps t_queue)) ∧ (¬ r1 = 0 → (wp_X11_isSquare p2 (fun r8 => (¬ r8 = 0 → (wp_J7_fill_53178 100 t_steps (-1) (fun t_steps_21 => vp_in p1 100 ∧ (∀ t_steps_30 : Nat → Int32, t_steps_30 = upd t_steps_21 (Int32.toNatClampNeg p1) 0 → (vp_in 0 100 ∧ (∀ t_queue_37 : Nat → Int32, t_queue_37 = upd t_queue (Int32.toNatClampNeg 0) p1 → (∃ n, lp (wp_X6_fewestSteps_L43 (fun t_steps t_queue l2 => vp_in l2 100 ∧ (post (t_steps (Int32.toNatClampNeg l2)) t_steps t_queue)) t_next post) n (t_steps_30, t_queue_37, p2, 1, 0)))))))) ∧ (r8 = 0 → (post (-1) t_steps t_queue)))))) := hw
  refine a_iload_n (pc := 0) (i := 1) C dX6_fewestSteps_0 rfl rfl ?_
  refine a_callSNi (pc := 1) (As := [.int p1]) (st := []) (ws' := (fun _ => (w_X6_fewestSteps (cxG X) A_t A_t_steps A_t_queue A_t_next U_t_lines U_t_shades U_t_casts U_t_roofs U_t_ground U_t_town t_steps t_queue t_next))) C (c_X11_isSquare hw) dX6_fewestSteps_1 mth_X11_isSquare nl_X6_132 (fun _ _ h => trivial) Fz0_ok (rml (by decide) (by decide)) (Nat.le_of_ble_eq_true rfl) rfl rfl [] [0, 1, 2, 3] [0, 1, 2, 3] rfl rfl rfl rfl rfl rfl (fun _ => rfl) rfl (fun _ => rfl) (fun r1 u hw => ?_)
  obtain ⟨z_1, hw⟩ := hw
  show AW X 7 0 0 (w_X6_fewestSteps (cxG X) A_t A_t_steps A_t_queue A_t_next U_t_lines U_t_shades U_t_casts U_t_roofs U_t_ground U_t_town t_steps t_queue t_next) pl 4 [some (.ref A_t), some (.int p1), some (.int p2), none, none, none, none] [.int r1]
  refine a_if_eq (pc := 4) (tgt := 14) C dX6_fewestSteps_4 (by decide) (fun c_4 => ?_) (fun c_4 => ?_)
  · replace hw := hw.1 c_4
    refine a_iconst (pc := 14) C dX6_fewestSteps_14 kc_m1 ?_
    exact hret _ _ _ _ _ hw dX6_fewestSteps_15
  · replace hw := hw.2 c_4
    refine a_iload_n (pc := 7) (i := 2) C dX6_fewestSteps_7 rfl rfl ?_
    refine a_callSNi (pc := 8) (As := [.int p2]) (st := []) (ws' := (fun _ => (w_X6_fewestSteps (cxG X) A_t A_t_steps A_t_queue A_t_next U_t_lines U_t_shades U_t_casts U_t_roofs U_t_ground U_t_town t_steps t_queue t_next))) C (c_X11_isSquare hw) dX6_fewestSteps_8 mth_X11_isSquare nl_X6_132 (fun _ _ h => trivial) Fz0_ok (rml (by decide) (by decide)) (Nat.le_of_ble_eq_true rfl) rfl rfl [] [0, 1, 2, 3] [0, 1, 2, 3] rfl rfl rfl rfl rfl rfl (fun _ => rfl) rfl (fun _ => rfl) (fun r8 u hw => ?_)
    obtain ⟨z_8, hw⟩ := hw
    show AW X 7 0 0 (w_X6_fewestSteps (cxG X) A_t A_t_steps A_t_queue A_t_next U_t_lines U_t_shades U_t_casts U_t_roofs U_t_ground U_t_town t_steps t_queue t_next) pl 11 [some (.ref A_t), some (.int p1), some (.int p2), none, none, none, none] [.int r8]
    refine a_if_ne (pc := 11) (tgt := 16) C dX6_fewestSteps_11 (by decide) (fun c_11 => ?_) (fun c_11 => ?_)
    · replace hw := hw.1 c_11
      refine a_aload_n (pc := 16) (i := 0) C dX6_fewestSteps_16 rfl rfl ?_
      refine a_get (pc := 17) C fl_X6_39 dX6_fewestSteps_17 0 rfl rfl ?_
      refine a_iconst (pc := 20) C dX6_fewestSteps_20 kc_m1 ?_
      refine a_callSv (pc := 21) (As := [.ref A_t_steps, .int (-1)]) (st := []) (ws' := (fun u => (w_X6_fewestSteps (cxG X) A_t A_t_steps A_t_queue A_t_next U_t_lines U_t_shades U_t_casts U_t_roofs U_t_ground U_t_town u t_queue t_next))) C (c_J7_fill_53178 A_t_steps 100 hw) dX6_fewestSteps_21 mth_J7_fill_53178 tml_X6_85 (fun _ _ h => trivial) Fz0_ok (rml (by decide) (by decide)) (Nat.le_of_ble_eq_true rfl) rfl rfl [1] [0, 2, 3] [0, 3, 1, 2] rfl rfl rfl rfl rfl rfl (fun _ => rfl) rfl (fun _ => rfl) (fun u hw => ?_)
      obtain ⟨t_steps_21, rfl⟩ : ∃ z, z = u := ⟨_, rfl⟩
      show AW X 7 0 0 (w_X6_fewestSteps (cxG X) A_t A_t_steps A_t_queue A_t_next U_t_lines U_t_shades U_t_casts U_t_roofs U_t_ground U_t_town t_steps_21 t_queue t_next) pl 24 [some (.ref A_t), some (.int p1), some (.int p2), none, none, none, none] []
      refine a_aload_n (pc := 24) (i := 0) C dX6_fewestSteps_24 rfl rfl ?_
      refine a_get (pc := 25) C fl_X6_39 dX6_fewestSteps_25 0 rfl rfl ?_
      refine a_iload_n (pc := 28) (i := 1) C dX6_fewestSteps_28 rfl rfl ?_
      refine a_iconst (pc := 29) C dX6_fewestSteps_29 kc_0 ?_
      obtain ⟨i_30, hw⟩ := hw
      refine a_iastW (pc := 30) C (fun h => (w_X6_fewestSteps (cxG X) A_t A_t_steps A_t_queue A_t_next U_t_lines U_t_shades U_t_casts U_t_roofs U_t_ground U_t_town h t_queue t_next)) dX6_fewestSteps_30 1 rfl i_30 (fun _ => rfl) (fun t_steps_30 e_t_steps_30 => ?_)
      replace hw := hw t_steps_30 e_t_steps_30
      refine a_aload_n (pc := 31) (i := 0) C dX6_fewestSteps_31 rfl rfl ?_
      refine a_get (pc := 32) C fl_X6_36 dX6_fewestSteps_32 0 rfl rfl ?_
      refine a_iconst (pc := 35) C dX6_fewestSteps_35 kc_0 ?_
      refine a_iload_n (pc := 36) (i := 1) C dX6_fewestSteps_36 rfl rfl ?_
      obtain ⟨i_37, hw⟩ := hw
      refine a_iastW (pc := 37) C (fun h => (w_X6_fewestSteps (cxG X) A_t A_t_steps A_t_queue A_t_next U_t_lines U_t_shades U_t_casts U_t_roofs U_t_ground U_t_town t_steps_30 h t_next)) dX6_fewestSteps_37 2 rfl i_37 (fun _ => rfl) (fun t_queue_37 e_t_queue_37 => ?_)
      replace hw := hw t_queue_37 e_t_queue_37
      refine a_iconst (pc := 38) C dX6_fewestSteps_38 kc_1 ?_
      refine s_istore_n (pc := 39) (i := 3) (lo' := [some (.ref A_t), some (.int p1), some (.int p2), some (.int 1), none, none, none]) C dX6_fewestSteps_39 rfl (by decide) rfl rfl ?_
      refine a_iconst (pc := 40) C dX6_fewestSteps_40 kc_0 ?_
      refine s_istore (pc := 41) (i := 4) (lo' := [some (.ref A_t), some (.int p1), some (.int p2), some (.int 1), some (.int 0), none, none]) C dX6_fewestSteps_41 (by decide) rfl rfl ?_
      refine a_msk [true, false, true, true, true, true, true] rfl ?_
      obtain ⟨n43, hw⟩ := hw
      refine m_X6_fewestSteps_L43 C hret (fun t_steps t_queue l2 hw => ?_) n43 _ _ _ _ _ hw
      refine a_aload_n (pc := 146) (i := 0) C dX6_fewestSteps_146 rfl rfl ?_
      refine a_get (pc := 147) C fl_X6_39 dX6_fewestSteps_147 0 rfl rfl ?_
      refine a_iload_n (pc := 150) (i := 2) C dX6_fewestSteps_150 rfl rfl ?_
      obtain ⟨i_151, hw⟩ := hw
      refine a_iald (pc := 151) C dX6_fewestSteps_151 1 rfl i_151 ?_
      exact hret _ _ _ _ _ hw dX6_fewestSteps_152
    · replace hw := hw.2 c_11
      refine a_iconst (pc := 14) C dX6_fewestSteps_14 kc_m1 ?_
      exact hret _ _ _ _ _ hw dX6_fewestSteps_15
theorem c_X6_fewestSteps {ka : KA} {l : Launch} {g : GG} {pl : Pool} (A_t A_t_steps A_t_queue A_t_next : Nat) (U_t_lines U_t_shades U_t_casts U_t_roofs U_t_ground U_t_town : Value) {t_next : Nat → Int32} {t_steps : Nat → Int32} {t_queue : Nat → Int32} {p1 : Int32} {p2 : Int32} {post : Int32 → (Nat → Int32) → (Nat → Int32) → Prop} (hw : wp_X6_fewestSteps t_next t_steps t_queue p1 p2 post) : MI l yX6_fewestSteps cX6_fewestSteps 7 (some .int) (rmL 2) g (FzC ka) [.ref A_t, .int p1, .int p2] (w_X6_fewestSteps g A_t A_t_steps A_t_queue A_t_next U_t_lines U_t_shades U_t_casts U_t_roofs U_t_ground U_t_town t_steps t_queue t_next) pl (fun r (u : (Nat → Int32) × (Nat → Int32)) => post r u.1 u.2) (fun u => (w_X6_fewestSteps g A_t A_t_steps A_t_queue A_t_next U_t_lines U_t_shades U_t_casts U_t_roofs U_t_ground U_t_town u.1 u.2 t_next)) (fun _ => pl) 0 0 := by
  refine met_i (own := RX6) rfl rfl (Nat.le_of_ble_eq_true rfl) (fun X hg hl C hini hret => ?_)
  subst hg
  subst hl
  exact m_X6_fewestSteps C (fun r w0 w1 pc lo hp hd => hret r (w0, w1) pc lo hp hd) hw
