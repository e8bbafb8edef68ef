abbrev w_X12_thrown (g : GG) (A_t : Nat) (U_t_tape U_t_taped U_t_size U_t_sort U_t_place U_t_value U_t_at U_t_fault U_t_words U_t_towns U_t_op U_t_arg U_t_codes U_t_facts U_t_pile U_t_shadeDay U_t_sun U_t_isShut U_t_sunny U_t_cost U_t_leastCost U_t_leastEnd U_t_wayOf U_t_wayMany U_t_whereAt U_t_reach U_t_likely U_t_crowdAt U_t_crowdBy U_t_crowdRounds U_t_bestSquare U_t_bestBy U_t_spotsMany U_t_spotAt U_t_followed U_t_followOf U_t_toldMany U_t_toldOf U_t_stepsTo U_t_reachOne U_t_isMarked U_t_markOf : Value) (t_thrown : Int32) : va_W := [(A_t, ob 12 [.int t_thrown, U_t_tape, U_t_taped, U_t_size, U_t_sort, U_t_place, U_t_value, U_t_at, U_t_fault, U_t_words, U_t_towns, U_t_op, U_t_arg, U_t_codes, U_t_facts, U_t_pile, U_t_shadeDay, U_t_sun, U_t_isShut, U_t_sunny, U_t_cost, U_t_leastCost, U_t_leastEnd, U_t_wayOf, U_t_wayMany, U_t_whereAt, U_t_reach, U_t_likely, U_t_crowdAt, U_t_crowdBy, U_t_crowdRounds, U_t_bestSquare, U_t_bestBy, U_t_spotsMany, U_t_spotAt, U_t_followed, U_t_followOf, U_t_toldMany, U_t_toldOf, U_t_stepsTo, U_t_reachOne, U_t_isMarked, U_t_markOf])]
set_option maxRecDepth 20000 in
theorem m_X12_thrown {X : Ctx} (C : Cok X cX12_thrown 1 RX12 (rmL 0) Fz0) {pl : Pool} {A_t : Nat} {U_t_tape U_t_taped U_t_size U_t_sort U_t_place U_t_value U_t_at U_t_fault U_t_words U_t_towns U_t_op U_t_arg U_t_codes U_t_facts U_t_pile U_t_shadeDay U_t_sun U_t_isShut U_t_sunny U_t_cost U_t_leastCost U_t_leastEnd U_t_wayOf U_t_wayMany U_t_whereAt U_t_reach U_t_likely U_t_crowdAt U_t_crowdBy U_t_crowdRounds U_t_bestSquare U_t_bestBy U_t_spotsMany U_t_spotAt U_t_followed U_t_followOf U_t_toldMany U_t_toldOf U_t_stepsTo U_t_reachOne U_t_isMarked U_t_markOf : Value} {t_thrown : Int32} {post : Int32 → Prop} (hret : ∀ (r : Int32) (pc : Nat) (lo : List (Option Value)), post r → decode cX12_thrown pc = .ok (.ireturn, 1) → AW X 1 0 0 (w_X12_thrown (cxG X) A_t U_t_tape U_t_taped U_t_size U_t_sort U_t_place U_t_value U_t_at U_t_fault U_t_words U_t_towns U_t_op U_t_arg U_t_codes U_t_facts U_t_pile U_t_shadeDay U_t_sun U_t_isShut U_t_sunny U_t_cost U_t_leastCost U_t_leastEnd U_t_wayOf U_t_wayMany U_t_whereAt U_t_reach U_t_likely U_t_crowdAt U_t_crowdBy U_t_crowdRounds U_t_bestSquare U_t_bestBy U_t_spotsMany U_t_spotAt U_t_followed U_t_followOf U_t_toldMany U_t_toldOf U_t_stepsTo U_t_reachOne U_t_isMarked U_t_markOf t_thrown) pl pc lo [.int r]) (hw : wp_X12_thrown t_thrown post) : AW X 1 0 0 (w_X12_thrown (cxG X) A_t U_t_tape U_t_taped U_t_size U_t_sort U_t_place U_t_value U_t_at U_t_fault U_t_words U_t_towns U_t_op U_t_arg U_t_codes U_t_facts U_t_pile U_t_shadeDay U_t_sun U_t_isShut U_t_sunny U_t_cost U_t_leastCost U_t_leastEnd U_t_wayOf U_t_wayMany U_t_whereAt U_t_reach U_t_likely U_t_crowdAt U_t_crowdBy U_t_crowdRounds U_t_bestSquare U_t_bestBy U_t_spotsMany U_t_spotAt U_t_followed U_t_followOf U_t_toldMany U_t_toldOf U_t_stepsTo U_t_reachOne U_t_isMarked U_t_markOf t_thrown) pl 0 [some (.ref A_t)] [] := by
  refine a_aload_n (pc := 0) (i := 0) C dX12_thrown_0 rfl rfl ?_
  refine a_get (pc := 1) C fl_X12_1 dX12_thrown_1 0 rfl rfl ?_
  exact hret _ _ _ hw dX12_thrown_4
theorem c_X12_thrown {l : Launch} {g : GG} {pl : Pool} (A_t : Nat) (U_t_tape U_t_taped U_t_size U_t_sort U_t_place U_t_value U_t_at U_t_fault U_t_words U_t_towns U_t_op U_t_arg U_t_codes U_t_facts U_t_pile U_t_shadeDay U_t_sun U_t_isShut U_t_sunny U_t_cost U_t_leastCost U_t_leastEnd U_t_wayOf U_t_wayMany U_t_whereAt U_t_reach U_t_likely U_t_crowdAt U_t_crowdBy U_t_crowdRounds U_t_bestSquare U_t_bestBy U_t_spotsMany U_t_spotAt U_t_followed U_t_followOf U_t_toldMany U_t_toldOf U_t_stepsTo U_t_reachOne U_t_isMarked U_t_markOf : Value) {t_thrown : Int32} {post : Int32 → Prop} (hw : wp_X12_thrown t_thrown post) : MI l yX12_thrown cX12_thrown 1 (some .int) (rmL 0) g Fz0 [.ref A_t] (w_X12_thrown g A_t U_t_tape U_t_taped U_t_size U_t_sort U_t_place U_t_value U_t_at U_t_fault U_t_words U_t_towns U_t_op U_t_arg U_t_codes U_t_facts U_t_pile U_t_shadeDay U_t_sun U_t_isShut U_t_sunny U_t_cost U_t_leastCost U_t_leastEnd U_t_wayOf U_t_wayMany U_t_whereAt U_t_reach U_t_likely U_t_crowdAt U_t_crowdBy U_t_crowdRounds U_t_bestSquare U_t_bestBy U_t_spotsMany U_t_spotAt U_t_followed U_t_followOf U_t_toldMany U_t_toldOf U_t_stepsTo U_t_reachOne U_t_isMarked U_t_markOf t_thrown) pl (fun r (_ : Unit) => post r) (fun _ => (w_X12_thrown g A_t U_t_tape U_t_taped U_t_size U_t_sort U_t_place U_t_value U_t_at U_t_fault U_t_words U_t_towns U_t_op U_t_arg U_t_codes U_t_facts U_t_pile U_t_shadeDay U_t_sun U_t_isShut U_t_sunny U_t_cost U_t_leastCost U_t_leastEnd U_t_wayOf U_t_wayMany U_t_whereAt U_t_reach U_t_likely U_t_crowdAt U_t_crowdBy U_t_crowdRounds U_t_bestSquare U_t_bestBy U_t_spotsMany U_t_spotAt U_t_followed U_t_followOf U_t_toldMany U_t_toldOf U_t_stepsTo U_t_reachOne U_t_isMarked U_t_markOf t_thrown)) (fun _ => pl) 0 0 := by
  refine met_i (own := RX12) rfl rfl (Nat.le_of_ble_eq_true rfl) (fun X hg hl C hini hret => ?_)
  subst hg
  subst hl
  exact m_X12_thrown C (fun r pc lo hp hd => hret r () pc lo hp hd) hw
abbrev w_X12_lay (g : GG) (A_t A_t_tape : Nat) (U_t_thrown U_t_size U_t_sort U_t_place U_t_value U_t_at U_t_fault U_t_words U_t_towns U_t_op U_t_arg U_t_codes U_t_facts U_t_pile U_t_shadeDay U_t_sun U_t_isShut U_t_sunny U_t_cost U_t_leastCost U_t_leastEnd U_t_wayOf U_t_wayMany U_t_whereAt U_t_reach U_t_likely U_t_crowdAt U_t_crowdBy U_t_crowdRounds U_t_bestSquare U_t_bestBy U_t_spotsMany U_t_spotAt U_t_followed U_t_followOf U_t_toldMany U_t_toldOf U_t_stepsTo U_t_reachOne U_t_isMarked U_t_markOf : Value) (t_taped : Int32) (t_tape : Nat → Int32) : va_W := [(A_t, ob 12 [U_t_thrown, .ref A_t_tape, .int t_taped, U_t_size, U_t_sort, U_t_place, U_t_value, U_t_at, U_t_fault, U_t_words, U_t_towns, U_t_op, U_t_arg, U_t_codes, U_t_facts, U_t_pile, U_t_shadeDay, U_t_sun, U_t_isShut, U_t_sunny, U_t_cost, U_t_leastCost, U_t_leastEnd, U_t_wayOf, U_t_wayMany, U_t_whereAt, U_t_reach, U_t_likely, U_t_crowdAt, U_t_crowdBy, U_t_crowdRounds, U_t_bestSquare, U_t_bestBy, U_t_spotsMany, U_t_spotAt, U_t_followed, U_t_followOf, U_t_toldMany, U_t_toldOf, U_t_stepsTo, U_t_reachOne, U_t_isMarked, U_t_markOf]), (A_t_tape, aI g 1000 t_tape)]
set_option maxRecDepth 20000 in
theorem m_X12_lay_b38 {X : Ctx} (C : Cok X cX12_lay 5 RX12 (rmL 0) Fz0) {pl : Pool} {A_t A_t_tape : Nat} {U_t_thrown U_t_size U_t_sort U_t_place U_t_value U_t_at U_t_fault U_t_words U_t_towns U_t_op U_t_arg U_t_codes U_t_facts U_t_pile U_t_shadeDay U_t_sun U_t_isShut U_t_sunny U_t_cost U_t_leastCost U_t_leastEnd U_t_wayOf U_t_wayMany U_t_whereAt U_t_reach U_t_likely U_t_crowdAt U_t_crowdBy U_t_crowdRounds U_t_bestSquare U_t_bestBy U_t_spotsMany U_t_spotAt U_t_followed U_t_followOf U_t_toldMany U_t_toldOf U_t_stepsTo U_t_reachOne U_t_isMarked U_t_markOf : Value} {post : Int32 → (Nat → Int32) → Prop} (hret : ∀ (w0 : Int32) (w1 : Nat → Int32) (pc : Nat) (lo : List (Option Value)), post w0 w1 → decode cX12_lay pc = .ok (.return_, 1) → AW X 5 0 0 (w_X12_lay (cxG X) A_t A_t_tape U_t_thrown U_t_size U_t_sort U_t_place U_t_value U_t_at U_t_fault U_t_words U_t_towns U_t_op U_t_arg U_t_codes U_t_facts U_t_pile U_t_shadeDay U_t_sun U_t_isShut U_t_sunny U_t_cost U_t_leastCost U_t_leastEnd U_t_wayOf U_t_wayMany U_t_whereAt U_t_reach U_t_likely U_t_crowdAt U_t_crowdBy U_t_crowdRounds U_t_bestSquare U_t_bestBy U_t_spotsMany U_t_spotAt U_t_followed U_t_followOf U_t_toldMany U_t_toldOf U_t_stepsTo U_t_reachOne U_t_isMarked U_t_markOf w0 w1) pl pc lo []) {x_75 : Int32 → (Nat → Int32) → Prop} {kb : Int32 × (Nat → Int32) × Int64 × Int32 → Prop} (hkb : ∀ (t_taped : Int32) (t_tape : Nat → Int32) (l1 : Int64) (l3 : Int32) , kb (t_taped, t_tape, l1, l3) → AW X 5 0 0 (w_X12_lay (cxG X) A_t A_t_tape U_t_thrown U_t_size U_t_sort U_t_place U_t_value U_t_at U_t_fault U_t_words U_t_towns U_t_op U_t_arg U_t_codes U_t_facts U_t_pile U_t_shadeDay U_t_sun U_t_isShut U_t_sunny U_t_cost U_t_leastCost U_t_leastEnd U_t_wayOf U_t_wayMany U_t_whereAt U_t_reach U_t_likely U_t_crowdAt U_t_crowdBy U_t_crowdRounds U_t_bestSquare U_t_bestBy U_t_spotsMany U_t_spotAt U_t_followed U_t_followOf U_t_toldMany U_t_toldOf U_t_stepsTo U_t_reachOne U_t_isMarked U_t_markOf t_taped t_tape) pl 3 [some (.ref A_t), some (.long l1), none, some (.int l3), none] []) (hx_75 : ∀ (t_taped : Int32) (t_tape : Nat → Int32) , x_75 t_taped t_tape → AW X 5 0 0 (w_X12_lay (cxG X) A_t A_t_tape U_t_thrown U_t_size U_t_sort U_t_place U_t_value U_t_at U_t_fault U_t_words U_t_towns U_t_op U_t_arg U_t_codes U_t_facts U_t_pile U_t_shadeDay U_t_sun U_t_isShut U_t_sunny U_t_cost U_t_leastCost U_t_leastEnd U_t_wayOf U_t_wayMany U_t_whereAt U_t_reach U_t_likely U_t_crowdAt U_t_crowdBy U_t_crowdRounds U_t_bestSquare U_t_bestBy U_t_spotsMany U_t_spotAt U_t_followed U_t_followOf U_t_toldMany U_t_toldOf U_t_stepsTo U_t_reachOne U_t_isMarked U_t_markOf t_taped t_tape) pl 75 [none, none, none, none, none] []) {t_taped : Int32} {t_tape : Nat → Int32} {l1 : Int64} {l3 : Int32} {l4 : Int32} (hw : wp_X12_lay_b38  x_75 kb post t_taped t_tape l1 l3 l4) : AW X 5 0 0 (w_X12_lay (cxG X) A_t A_t_tape U_t_thrown U_t_size U_t_sort U_t_place U_t_value U_t_at U_t_fault U_t_words U_t_towns U_t_op U_t_arg U_t_codes U_t_facts U_t_pile U_t_shadeDay U_t_sun U_t_isShut U_t_sunny U_t_cost U_t_leastCost U_t_leastEnd U_t_wayOf U_t_wayMany U_t_whereAt U_t_reach U_t_likely U_t_crowdAt U_t_crowdBy U_t_crowdRounds U_t_bestSquare U_t_bestBy U_t_spotsMany U_t_spotAt U_t_followed U_t_followOf U_t_toldMany U_t_toldOf U_t_stepsTo U_t_reachOne U_t_isMarked U_t_markOf t_taped t_tape) pl 38 [some (.ref A_t), some (.long l1), none, some (.int l3), some (.int l4)] [] := by
  refine a_aload_n (pc := 38) (i := 0) C dX12_lay_38 rfl rfl ?_
  refine a_get (pc := 39) C fl_X12_11 dX12_lay_39 0 rfl rfl ?_
  refine a_sipush (pc := 42) C dX12_lay_42 ks_1000 ?_
  refine a_icmp_ge (pc := 45) (tgt := 69) C dX12_lay_45 (by decide) (fun c_45 => ?_) (fun c_45 => ?_)
  · replace hw := hw.1 c_45
    refine a_inc (pc := 69) (i := 3) C (fun y => [some (.ref A_t), some (.long l1), none, some (.int y), some (.int l4)]) dX12_lay_69 rfl kc_m8 (by decide) rfl (fun _ => rfl) (fun y69 e_y69 => ?_)
    replace hw := hw y69 e_y69
    refine a_goto (pc := 72) (tgt := 3) C dX12_lay_72 (by decide) ?_
    refine a_msk [true, true, true, true, false] rfl ?_
    exact hkb _ _ _ _ hw
  · replace hw := hw.2 c_45
    refine a_aload_n (pc := 48) (i := 0) C dX12_lay_48 rfl rfl ?_
    refine a_get (pc := 49) C fl_X12_14 dX12_lay_49 0 rfl rfl ?_
    refine a_aload_n (pc := 52) (i := 0) C dX12_lay_52 rfl rfl ?_
    refine a_get (pc := 53) C fl_X12_11 dX12_lay_53 0 rfl rfl ?_
    refine a_iload (pc := 56) (i := 4) C dX12_lay_56 rfl ?_
    obtain ⟨i_58, hw⟩ := hw
    refine a_iastW (pc := 58) C (fun h => (w_X12_lay (cxG X) A_t A_t_tape U_t_thrown U_t_size U_t_sort U_t_place U_t_value U_t_at U_t_fault U_t_words U_t_towns U_t_op U_t_arg U_t_codes U_t_facts U_t_pile U_t_shadeDay U_t_sun U_t_isShut U_t_sunny U_t_cost U_t_leastCost U_t_leastEnd U_t_wayOf U_t_wayMany U_t_whereAt U_t_reach U_t_likely U_t_crowdAt U_t_crowdBy U_t_crowdRounds U_t_bestSquare U_t_bestBy U_t_spotsMany U_t_spotAt U_t_followed U_t_followOf U_t_toldMany U_t_toldOf U_t_stepsTo U_t_reachOne U_t_isMarked U_t_markOf t_taped h)) dX12_lay_58 1 rfl i_58 (fun _ => rfl) (fun t_tape_58 e_t_tape_58 => ?_)
    replace hw := hw t_tape_58 e_t_tape_58
    refine a_aload_n (pc := 59) (i := 0) C dX12_lay_59 rfl rfl ?_
    refine a_dup (pc := 60) C dX12_lay_60 rfl ?_
    refine a_get (pc := 61) C fl_X12_11 dX12_lay_61 0 rfl rfl ?_
    refine a_iconst (pc := 64) C dX12_lay_64 kc_1 ?_
    refine a_iadd (pc := 65) C dX12_lay_65 ?_
    refine a_topi (fun x66 e_x66 => ?_)
    replace hw := hw x66 e_x66
    refine a_putW (pc := 66) (ws' := (w_X12_lay (cxG X) A_t A_t_tape U_t_thrown U_t_size U_t_sort U_t_place U_t_value U_t_at U_t_fault U_t_words U_t_towns U_t_op U_t_arg U_t_codes U_t_facts U_t_pile U_t_shadeDay U_t_sun U_t_isShut U_t_sunny U_t_cost U_t_leastCost U_t_leastEnd U_t_wayOf U_t_wayMany U_t_whereAt U_t_reach U_t_likely U_t_crowdAt U_t_crowdBy U_t_crowdRounds U_t_bestSquare U_t_bestBy U_t_spotsMany U_t_spotAt U_t_followed U_t_followOf U_t_toldMany U_t_toldOf U_t_stepsTo U_t_reachOne U_t_isMarked U_t_markOf x66 t_tape_58)) C fl_X12_11 pu_12_2 dX12_lay_66 0 rfl rfl rfl (Nat.le_of_ble_eq_true rfl) rfl ?_
    refine a_inc (pc := 69) (i := 3) C (fun y => [some (.ref A_t), some (.long l1), none, some (.int y), some (.int l4)]) dX12_lay_69 rfl kc_m8 (by decide) rfl (fun _ => rfl) (fun y69 e_y69 => ?_)
    replace hw := hw y69 e_y69
    refine a_goto (pc := 72) (tgt := 3) C dX12_lay_72 (by decide) ?_
    refine a_msk [true, true, true, true, false] rfl ?_
    exact hkb _ _ _ _ hw
set_option maxRecDepth 20000 in
theorem m_X12_lay_L3 {X : Ctx} (C : Cok X cX12_lay 5 RX12 (rmL 0) Fz0) {pl : Pool} {A_t A_t_tape : Nat} {U_t_thrown U_t_size U_t_sort U_t_place U_t_value U_t_at U_t_fault U_t_words U_t_towns U_t_op U_t_arg U_t_codes U_t_facts U_t_pile U_t_shadeDay U_t_sun U_t_isShut U_t_sunny U_t_cost U_t_leastCost U_t_leastEnd U_t_wayOf U_t_wayMany U_t_whereAt U_t_reach U_t_likely U_t_crowdAt U_t_crowdBy U_t_crowdRounds U_t_bestSquare U_t_bestBy U_t_spotsMany U_t_spotAt U_t_followed U_t_followOf U_t_toldMany U_t_toldOf U_t_stepsTo U_t_reachOne U_t_isMarked U_t_markOf : Value} {post : Int32 → (Nat → Int32) → Prop} (hret : ∀ (w0 : Int32) (w1 : Nat → Int32) (pc : Nat) (lo : List (Option Value)), post w0 w1 → decode cX12_lay pc = .ok (.return_, 1) → AW X 5 0 0 (w_X12_lay (cxG X) A_t A_t_tape U_t_thrown U_t_size U_t_sort U_t_place U_t_value U_t_at U_t_fault U_t_words U_t_towns U_t_op U_t_arg U_t_codes U_t_facts U_t_pile U_t_shadeDay U_t_sun U_t_isShut U_t_sunny U_t_cost U_t_leastCost U_t_leastEnd U_t_wayOf U_t_wayMany U_t_whereAt U_t_reach U_t_likely U_t_crowdAt U_t_crowdBy U_t_crowdRounds U_t_bestSquare U_t_bestBy U_t_spotsMany U_t_spotAt U_t_followed U_t_followOf U_t_toldMany U_t_toldOf U_t_stepsTo U_t_reachOne U_t_isMarked U_t_markOf w0 w1) pl pc lo []) {x_75 : Int32 → (Nat → Int32) → Prop} (hx_75 : ∀ (t_taped : Int32) (t_tape : Nat → Int32) , x_75 t_taped t_tape → AW X 5 0 0 (w_X12_lay (cxG X) A_t A_t_tape U_t_thrown U_t_size U_t_sort U_t_place U_t_value U_t_at U_t_fault U_t_words U_t_towns U_t_op U_t_arg U_t_codes U_t_facts U_t_pile U_t_shadeDay U_t_sun U_t_isShut U_t_sunny U_t_cost U_t_leastCost U_t_leastEnd U_t_wayOf U_t_wayMany U_t_whereAt U_t_reach U_t_likely U_t_crowdAt U_t_crowdBy U_t_crowdRounds U_t_bestSquare U_t_bestBy U_t_spotsMany U_t_spotAt U_t_followed U_t_followOf U_t_toldMany U_t_toldOf U_t_stepsTo U_t_reachOne U_t_isMarked U_t_markOf t_taped t_tape) pl 75 [none, none, none, none, none] []) : ∀ (n3 : Nat) (t_taped : Int32) (t_tape : Nat → Int32) (l1 : Int64) (l3 : Int32) , lp (wp_X12_lay_L3 x_75 post) n3 (t_taped, t_tape, l1, l3) → AW X 5 0 0 (w_X12_lay (cxG X) A_t A_t_tape U_t_thrown U_t_size U_t_sort U_t_place U_t_value U_t_at U_t_fault U_t_words U_t_towns U_t_op U_t_arg U_t_codes U_t_facts U_t_pile U_t_shadeDay U_t_sun U_t_isShut U_t_sunny U_t_cost U_t_leastCost U_t_leastEnd U_t_wayOf U_t_wayMany U_t_whereAt U_t_reach U_t_likely U_t_crowdAt U_t_crowdBy U_t_crowdRounds U_t_bestSquare U_t_bestBy U_t_spotsMany U_t_spotAt U_t_followed U_t_followOf U_t_toldMany U_t_toldOf U_t_stepsTo U_t_reachOne U_t_isMarked U_t_markOf t_taped t_tape) pl 3 [some (.ref A_t), some (.long l1), none, some (.int l3), none] [] := by
  intro n3
  induction n3 with
  | zero => exact fun _ _ _ _ hw => hw.elim
  | succ n3 hkb =>
    intro t_taped t_tape l1 l3 hw
    replace hw : wp_X12_lay_L3 x_75 post (lp (wp_X12_lay_L3 x_75 post) n3) (t_taped, t_tape, l1, l3) := hw
    generalize lp (wp_X12_lay_L3 x_75 post) n3 = kb at hw hkb
    refine a_iload_n (pc := 3) (i := 3) C dX12_lay_3 rfl rfl ?_
    refine a_if_lt (pc := 4) (tgt := 75) C dX12_lay_4 (by decide) (fun c_4 => ?_) (fun c_4 => ?_)
    · replace hw := hw.1 c_4
      refine a_msk [false, false, true, false, true] rfl ?_
      exact hx_75 _ _ hw
    · replace hw := hw.2 c_4
      refine a_lload_n (pc := 7) (i := 1) C dX12_lay_7 rfl rfl ?_
      refine a_iload_n (pc := 8) (i := 3) C dX12_lay_8 rfl rfl ?_
      refine a_lshr (pc := 9) C dX12_lay_9 ?_
      refine a_l2i (pc := 10) C dX12_lay_10 ?_
      refine a_sipush (pc := 11) C dX12_lay_11 ks_255 ?_
      refine a_iand (pc := 14) C dX12_lay_14 ?_
      refine a_topi (fun x15 e_x15 => ?_)
      replace hw := hw x15 e_x15
      refine s_istore (pc := 15) (i := 4) (lo' := [some (.ref A_t), some (.long l1), none, some (.int l3), some (.int x15)]) C dX12_lay_15 (by decide) rfl rfl ?_
      refine a_iload (pc := 17) (i := 4) C dX12_lay_17 rfl ?_
      refine a_bipush (pc := 19) C dX12_lay_19 kb_10 ?_
      refine a_icmp_eq (pc := 21) (tgt := 38) C dX12_lay_21 (by decide) (fun c_21 => ?_) (fun c_21 => ?_)
      · replace hw := hw.1 c_21
        exact m_X12_lay_b38 C hret (kb := kb) hkb hx_75 hw
      · replace hw := hw.2 c_21
        refine a_iload (pc := 24) (i := 4) C dX12_lay_24 rfl ?_
        refine a_bipush (pc := 26) C dX12_lay_26 kb_32 ?_
        refine a_icmp_lt (pc := 28) (tgt := 69) C dX12_lay_28 (by decide) (fun c_28 => ?_) (fun c_28 => ?_)
        · replace hw := hw.1 c_28
          refine a_inc (pc := 69) (i := 3) C (fun y => [some (.ref A_t), some (.long l1), none, some (.int y), some (.int x15)]) dX12_lay_69 rfl kc_m8 (by decide) rfl (fun _ => rfl) (fun y69 e_y69 => ?_)
          replace hw := hw y69 e_y69
          refine a_goto (pc := 72) (tgt := 3) C dX12_lay_72 (by decide) ?_
          refine a_msk [true, true, true, true, false] rfl ?_
          exact hkb _ _ _ _ hw
        · replace hw := hw.2 c_28
          refine a_iload (pc := 31) (i := 4) C dX12_lay_31 rfl ?_
          refine a_bipush (pc := 33) C dX12_lay_33 kb_126 ?_
          refine a_icmp_gt (pc := 35) (tgt := 69) C dX12_lay_35 (by decide) (fun c_35 => ?_) (fun c_35 => ?_)
          · replace hw := hw.1 c_35
            refine a_inc (pc := 69) (i := 3) C (fun y => [some (.ref A_t), some (.long l1), none, some (.int y), some (.int x15)]) dX12_lay_69 rfl kc_m8 (by decide) rfl (fun _ => rfl) (fun y69 e_y69 => ?_)
            replace hw := hw y69 e_y69
            refine a_goto (pc := 72) (tgt := 3) C dX12_lay_72 (by decide) ?_
            refine a_msk [true, true, true, true, false] rfl ?_
            exact hkb _ _ _ _ hw
          · replace hw := hw.2 c_35
            exact m_X12_lay_b38 C hret (kb := kb) hkb hx_75 hw
set_option maxRecDepth 20000 in
theorem m_X12_lay {X : Ctx} (C : Cok X cX12_lay 5 RX12 (rmL 0) Fz0) {pl : Pool} {A_t A_t_tape : Nat} {U_t_thrown U_t_size U_t_sort U_t_place U_t_value U_t_at U_t_fault U_t_words U_t_towns U_t_op U_t_arg U_t_codes U_t_facts U_t_pile U_t_shadeDay U_t_sun U_t_isShut U_t_sunny U_t_cost U_t_leastCost U_t_leastEnd U_t_wayOf U_t_wayMany U_t_whereAt U_t_reach U_t_likely U_t_crowdAt U_t_crowdBy U_t_crowdRounds U_t_bestSquare U_t_bestBy U_t_spotsMany U_t_spotAt U_t_followed U_t_followOf U_t_toldMany U_t_toldOf U_t_stepsTo U_t_reachOne U_t_isMarked U_t_markOf : Value} {t_taped : Int32} {t_tape : Nat → Int32} {p1 : Int64} {post : Int32 → (Nat → Int32) → Prop} (hret : ∀ (w0 : Int32) (w1 : Nat → Int32) (pc : Nat) (lo : List (Option Value)), post w0 w1 → decode cX12_lay pc = .ok (.return_, 1) → AW X 5 0 0 (w_X12_lay (cxG X) A_t A_t_tape U_t_thrown U_t_size U_t_sort U_t_place U_t_value U_t_at U_t_fault U_t_words U_t_towns U_t_op U_t_arg U_t_codes U_t_facts U_t_pile U_t_shadeDay U_t_sun U_t_isShut U_t_sunny U_t_cost U_t_leastCost U_t_leastEnd U_t_wayOf U_t_wayMany U_t_whereAt U_t_reach U_t_likely U_t_crowdAt U_t_crowdBy U_t_crowdRounds U_t_bestSquare U_t_bestBy U_t_spotsMany U_t_spotAt U_t_followed U_t_followOf U_t_toldMany U_t_toldOf U_t_stepsTo U_t_reachOne U_t_isMarked U_t_markOf w0 w1) pl pc lo []) (hw : wp_X12_lay t_taped t_tape p1 post) : AW X 5 0 0 (w_X12_lay (cxG X) A_t A_t_tape U_t_thrown U_t_size U_t_sort U_t_place U_t_value U_t_at U_t_fault U_t_words U_t_towns U_t_op U_t_arg U_t_codes U_t_facts U_t_pile U_t_shadeDay U_t_sun U_t_isShut U_t_sunny U_t_cost U_t_leastCost U_t_leastEnd U_t_wayOf U_t_wayMany U_t_whereAt U_t_reach U_t_likely U_t_crowdAt U_t_crowdBy U_t_crowdRounds U_t_bestSquare U_t_bestBy U_t_spotsMany U_t_spotAt U_t_followed U_t_followOf U_t_toldMany U_t_toldOf U_t_stepsTo U_t_reachOne U_t_isMarked U_t_markOf t_taped t_tape) pl 0 [some (.ref A_t), some (.long p1), none, none, none] [] := by
  refine a_bipush (pc := 0) C dX12_lay_0 kb_56 ?_
  refine s_istore_n (pc := 2) (i := 3) (lo' := [some (.ref A_t), some (.long p1), none, some (.int 56), none]) C dX12_lay_2 rfl (by decide) rfl rfl ?_
  obtain ⟨n3, hw⟩ := hw
  refine m_X12_lay_L3 C hret (fun t_taped t_tape hw => ?_) n3 _ _ _ _ hw
  exact hret _ _ _ _ hw dX12_lay_75
theorem c_X12_lay {l : Launch} {g : GG} {pl : Pool} (A_t A_t_tape : Nat) (U_t_thrown U_t_size U_t_sort U_t_place U_t_value U_t_at U_t_fault U_t_words U_t_towns U_t_op U_t_arg U_t_codes U_t_facts U_t_pile U_t_shadeDay U_t_sun U_t_isShut U_t_sunny U_t_cost U_t_leastCost U_t_leastEnd U_t_wayOf U_t_wayMany U_t_whereAt U_t_reach U_t_likely U_t_crowdAt U_t_crowdBy U_t_crowdRounds U_t_bestSquare U_t_bestBy U_t_spotsMany U_t_spotAt U_t_followed U_t_followOf U_t_toldMany U_t_toldOf U_t_stepsTo U_t_reachOne U_t_isMarked U_t_markOf : Value) {t_taped : Int32} {t_tape : Nat → Int32} {p1 : Int64} {post : Int32 → (Nat → Int32) → Prop} (hw : wp_X12_lay t_taped t_tape p1 post) : MV l yX12_lay cX12_lay 5 (none : Option Jvm.ClassFile.FieldType) (rmL 0) g Fz0 [.ref A_t, .long p1] (w_X12_lay g A_t A_t_tape U_t_thrown U_t_size U_t_sort U_t_place U_t_value U_t_at U_t_fault U_t_words U_t_towns U_t_op U_t_arg U_t_codes U_t_facts U_t_pile U_t_shadeDay U_t_sun U_t_isShut U_t_sunny U_t_cost U_t_leastCost U_t_leastEnd U_t_wayOf U_t_wayMany U_t_whereAt U_t_reach U_t_likely U_t_crowdAt U_t_crowdBy U_t_crowdRounds U_t_bestSquare U_t_bestBy U_t_spotsMany U_t_spotAt U_t_followed U_t_followOf U_t_toldMany U_t_toldOf U_t_stepsTo U_t_reachOne U_t_isMarked U_t_markOf t_taped t_tape) pl (fun (u : Int32 × (Nat → Int32)) => post u.1 u.2) (fun u => (w_X12_lay g A_t A_t_tape U_t_thrown U_t_size U_t_sort U_t_place U_t_value U_t_at U_t_fault U_t_words U_t_towns U_t_op U_t_arg U_t_codes U_t_facts U_t_pile U_t_shadeDay U_t_sun U_t_isShut U_t_sunny U_t_cost U_t_leastCost U_t_leastEnd U_t_wayOf U_t_wayMany U_t_whereAt U_t_reach U_t_likely U_t_crowdAt U_t_crowdBy U_t_crowdRounds U_t_bestSquare U_t_bestBy U_t_spotsMany U_t_spotAt U_t_followed U_t_followOf U_t_toldMany U_t_toldOf U_t_stepsTo U_t_reachOne U_t_isMarked U_t_markOf u.1 u.2)) (fun _ => pl) 0 0 := by
  refine met_v (own := RX12) rfl rfl (Nat.le_of_ble_eq_true rfl) (fun X hg hl C hini hret => ?_)
  subst hg
  subst hl
  exact m_X12_lay C (fun w0 w1 pc lo hp hd => hret (w0, w1) pc lo hp hd) hw
abbrev w_X12_feed (g : GG) (A_t A_t_tape : Nat) (U_t_size U_t_sort U_t_place U_t_value U_t_at U_t_fault U_t_words U_t_towns U_t_op U_t_arg U_t_codes U_t_facts U_t_pile U_t_shadeDay U_t_sun U_t_isShut U_t_sunny U_t_cost U_t_leastCost U_t_leastEnd U_t_wayOf U_t_wayMany U_t_whereAt U_t_reach U_t_likely U_t_crowdAt U_t_crowdBy U_t_crowdRounds U_t_bestSquare U_t_bestBy U_t_spotsMany U_t_spotAt U_t_followed U_t_followOf U_t_toldMany U_t_toldOf U_t_stepsTo U_t_reachOne U_t_isMarked U_t_markOf : Value) (t_thrown : Int32) (t_taped : Int32) (t_tape : Nat → Int32) : va_W := [(A_t, ob 12 [.int t_thrown, .ref A_t_tape, .int t_taped, U_t_size, U_t_sort, U_t_place, U_t_value, U_t_at, U_t_fault, U_t_words, U_t_towns, U_t_op, U_t_arg, U_t_codes, U_t_facts, U_t_pile, U_t_shadeDay, U_t_sun, U_t_isShut, U_t_sunny, U_t_cost, U_t_leastCost, U_t_leastEnd, U_t_wayOf, U_t_wayMany, U_t_whereAt, U_t_reach, U_t_likely, U_t_crowdAt, U_t_crowdBy, U_t_crowdRounds, U_t_bestSquare, U_t_bestBy, U_t_spotsMany, U_t_spotAt, U_t_followed, U_t_followOf, U_t_toldMany, U_t_toldOf, U_t_stepsTo, U_t_reachOne, U_t_isMarked, U_t_markOf]), (A_t_tape, aI g 1000 t_tape)]
set_option maxRecDepth 20000 in
theorem m_X12_feed {X : Ctx} (C : Cok X cX12_feed 7 RX12 (rmL 1) Fz0) {pl : Pool} {A_t A_t_tape : Nat} {U_t_size U_t_sort U_t_place U_t_value U_t_at U_t_fault U_t_words U_t_towns U_t_op U_t_arg U_t_codes U_t_facts U_t_pile U_t_shadeDay U_t_sun U_t_isShut U_t_sunny U_t_cost U_t_leastCost U_t_leastEnd U_t_wayOf U_t_wayMany U_t_whereAt U_t_reach U_t_likely U_t_crowdAt U_t_crowdBy U_t_crowdRounds U_t_bestSquare U_t_bestBy U_t_spotsMany U_t_spotAt U_t_followed U_t_followOf U_t_toldMany U_t_toldOf U_t_stepsTo U_t_reachOne U_t_isMarked U_t_markOf : Value} {t_thrown : Int32} {t_taped : Int32} {t_tape : Nat → Int32} {p1 : Int64} {p3 : Int64} {p5 : Int64} {post : Int32 → Int32 → Int32 → (Nat → Int32) → Prop} (hret : ∀ (r : Int32) (w0 : Int32) (w1 : Int32) (w2 : Nat → Int32) (pc : Nat) (lo : List (Option Value)), post r w0 w1 w2 → decode cX12_feed pc = .ok (.ireturn, 1) → AW X 7 0 0 (w_X12_feed (cxG X) A_t A_t_tape U_t_size U_t_sort U_t_place U_t_value U_t_at U_t_fault U_t_words U_t_towns U_t_op U_t_arg U_t_codes U_t_facts U_t_pile U_t_shadeDay U_t_sun U_t_isShut U_t_sunny U_t_cost U_t_leastCost U_t_leastEnd U_t_wayOf U_t_wayMany U_t_whereAt U_t_reach U_t_likely U_t_crowdAt U_t_crowdBy U_t_crowdRounds U_t_bestSquare U_t_bestBy U_t_spotsMany U_t_spotAt U_t_followed U_t_followOf U_t_toldMany U_t_toldOf U_t_stepsTo U_t_reachOne U_t_isMarked U_t_markOf w0 w1 w2) pl pc lo [.int r]) (hw : wp_X12_feed t_thrown t_taped t_tape p1 p3 p5 post) : AW X 7 0 0 (w_X12_feed (cxG X) A_t A_t_tape U_t_size U_t_sort U_t_place U_t_value U_t_at U_t_fault U_t_words U_t_towns U_t_op U_t_arg U_t_codes U_t_facts U_t_pile U_t_shadeDay U_t_sun U_t_isShut U_t_sunny U_t_cost U_t_leastCost U_t_leastEnd U_t_wayOf U_t_wayMany U_t_whereAt U_t_reach U_t_likely U_t_crowdAt U_t_crowdBy U_t_crowdRounds U_t_bestSquare U_t_bestBy U_t_spotsMany U_t_spotAt U_t_followed U_t_followOf U_t_toldMany U_t_toldOf U_t_stepsTo U_t_reachOne U_t_isMarked U_t_markOf t_thrown t_taped t_tape) pl 0 [some (.ref A_t), some (.long p1), none, some (.long p3), none, some (.long p5), none] [] := by
  replace hw : wp_X12_lay t_taped t_tape p1 (fun t_taped_7 t_tape_7 => wp_X12_lay t_taped_7 t_tape_7 p3 (fun t_taped_12 t_tape_12 => wp_X12_lay t_taped_12 t_tape_12 p5 (fun t_taped_18 t_tape_18 => post t_taped_18 0 t_taped_18 t_tape_18))) := hw
  refine a_aload_n (pc := 0) (i := 0) C dX12_feed_0 rfl rfl ?_
  refine a_iconst (pc := 1) C dX12_feed_1 kc_0 ?_
  refine a_putW (pc := 2) (ws' := (w_X12_feed (cxG X) A_t A_t_tape U_t_size U_t_sort U_t_place U_t_value U_t_at U_t_fault U_t_words U_t_towns U_t_op U_t_arg U_t_codes U_t_facts U_t_pile U_t_shadeDay U_t_sun U_t_isShut U_t_sunny U_t_cost U_t_leastCost U_t_leastEnd U_t_wayOf U_t_wayMany U_t_whereAt U_t_reach U_t_likely U_t_crowdAt U_t_crowdBy U_t_crowdRounds U_t_bestSquare U_t_bestBy U_t_spotsMany U_t_spotAt U_t_followed U_t_followOf U_t_toldMany U_t_toldOf U_t_stepsTo U_t_reachOne U_t_isMarked U_t_markOf 0 t_taped t_tape)) C fl_X12_1 pu_12_0 dX12_feed_2 0 rfl rfl rfl (Nat.le_of_ble_eq_true rfl) rfl ?_
  refine a_aload_n (pc := 5) (i := 0) C dX12_feed_5 rfl rfl ?_
  refine a_lload_n (pc := 6) (i := 1) C dX12_feed_6 rfl rfl ?_
  refine a_callVv (pc := 7) (As := [.long p1]) (st := []) (ws' := (fun u => (w_X12_feed (cxG X) A_t A_t_tape U_t_size U_t_sort U_t_place U_t_value U_t_at U_t_fault U_t_words U_t_towns U_t_op U_t_arg U_t_codes U_t_facts U_t_pile U_t_shadeDay U_t_sun U_t_isShut U_t_sunny U_t_cost U_t_leastCost U_t_leastEnd U_t_wayOf U_t_wayMany U_t_whereAt U_t_reach U_t_likely U_t_crowdAt U_t_crowdBy U_t_crowdRounds U_t_bestSquare U_t_bestBy U_t_spotsMany U_t_spotAt U_t_followed U_t_followOf U_t_toldMany U_t_toldOf U_t_stepsTo U_t_reachOne U_t_isMarked U_t_markOf 0 u.1 u.2))) C (c_X12_lay A_t A_t_tape (.int 0) U_t_size U_t_sort U_t_place U_t_value U_t_at U_t_fault U_t_words U_t_towns U_t_op U_t_arg U_t_codes U_t_facts U_t_pile U_t_shadeDay U_t_sun U_t_isShut U_t_sunny U_t_cost U_t_leastCost U_t_leastEnd U_t_wayOf U_t_wayMany U_t_whereAt U_t_reach U_t_likely U_t_crowdAt U_t_crowdBy U_t_crowdRounds U_t_bestSquare U_t_bestBy U_t_spotsMany U_t_spotAt U_t_followed U_t_followOf U_t_toldMany U_t_toldOf U_t_stepsTo U_t_reachOne U_t_isMarked U_t_markOf hw) dX12_feed_7 mth_X12_lay tml_X12_7 (fun _ _ h => trivial) Fz0_ok (rml (by decide) (by decide)) (Nat.le_of_ble_eq_true rfl) rfl rfl [0, 1] [] [0, 1] rfl rfl rfl rfl rfl rfl (ci := 12) rfl ⟨0, _, rfl⟩ (fun _ => rfl) rfl (fun _ => rfl) (fun u hw => ?_)
  obtain ⟨t_taped_7, t_tape_7⟩ := u
  dsimp only at hw
  show AW X 7 0 0 (w_X12_feed (cxG X) A_t A_t_tape U_t_size U_t_sort U_t_place U_t_value U_t_at U_t_fault U_t_words U_t_towns U_t_op U_t_arg U_t_codes U_t_facts U_t_pile U_t_shadeDay U_t_sun U_t_isShut U_t_sunny U_t_cost U_t_leastCost U_t_leastEnd U_t_wayOf U_t_wayMany U_t_whereAt U_t_reach U_t_likely U_t_crowdAt U_t_crowdBy U_t_crowdRounds U_t_bestSquare U_t_bestBy U_t_spotsMany U_t_spotAt U_t_followed U_t_followOf U_t_toldMany U_t_toldOf U_t_stepsTo U_t_reachOne U_t_isMarked U_t_markOf 0 t_taped_7 t_tape_7) pl 10 [some (.ref A_t), some (.long p1), none, some (.long p3), none, some (.long p5), none] []
  refine a_aload_n (pc := 10) (i := 0) C dX12_feed_10 rfl rfl ?_
  refine a_lload_n (pc := 11) (i := 3) C dX12_feed_11 rfl rfl ?_
  refine a_callVv (pc := 12) (As := [.long p3]) (st := []) (ws' := (fun u => (w_X12_feed (cxG X) A_t A_t_tape U_t_size U_t_sort U_t_place U_t_value U_t_at U_t_fault U_t_words U_t_towns U_t_op U_t_arg U_t_codes U_t_facts U_t_pile U_t_shadeDay U_t_sun U_t_isShut U_t_sunny U_t_cost U_t_leastCost U_t_leastEnd U_t_wayOf U_t_wayMany U_t_whereAt U_t_reach U_t_likely U_t_crowdAt U_t_crowdBy U_t_crowdRounds U_t_bestSquare U_t_bestBy U_t_spotsMany U_t_spotAt U_t_followed U_t_followOf U_t_toldMany U_t_toldOf U_t_stepsTo U_t_reachOne U_t_isMarked U_t_markOf 0 u.1 u.2))) C (c_X12_lay A_t A_t_tape (.int 0) U_t_size U_t_sort U_t_place U_t_value U_t_at U_t_fault U_t_words U_t_towns U_t_op U_t_arg U_t_codes U_t_facts U_t_pile U_t_shadeDay U_t_sun U_t_isShut U_t_sunny U_t_cost U_t_leastCost U_t_leastEnd U_t_wayOf U_t_wayMany U_t_whereAt U_t_reach U_t_likely U_t_crowdAt U_t_crowdBy U_t_crowdRounds U_t_bestSquare U_t_bestBy U_t_spotsMany U_t_spotAt U_t_followed U_t_followOf U_t_toldMany U_t_toldOf U_t_stepsTo U_t_reachOne U_t_isMarked U_t_markOf hw) dX12_feed_12 mth_X12_lay tml_X12_7 (fun _ _ h => trivial) Fz0_ok (rml (by decide) (by decide)) (Nat.le_of_ble_eq_true rfl) rfl rfl [0, 1] [] [0, 1] rfl rfl rfl rfl rfl rfl (ci := 12) rfl ⟨0, _, rfl⟩ (fun _ => rfl) rfl (fun _ => rfl) (fun u hw => ?_)
  obtain ⟨t_taped_12, t_tape_12⟩ := u
  dsimp only at hw
  show AW X 7 0 0 (w_X12_feed (cxG X) A_t A_t_tape U_t_size U_t_sort U_t_place U_t_value U_t_at U_t_fault U_t_words U_t_towns U_t_op U_t_arg U_t_codes U_t_facts U_t_pile U_t_shadeDay U_t_sun U_t_isShut U_t_sunny U_t_cost U_t_leastCost U_t_leastEnd U_t_wayOf U_t_wayMany U_t_whereAt U_t_reach U_t_likely U_t_crowdAt U_t_crowdBy U_t_crowdRounds U_t_bestSquare U_t_bestBy U_t_spotsMany U_t_spotAt U_t_followed U_t_followOf U_t_toldMany U_t_toldOf U_t_stepsTo U_t_reachOne U_t_isMarked U_t_markOf 0 t_taped_12 t_tape_12) pl 15 [some (.ref A_t), some (.long p1), none, some (.long p3), none, some (.long p5), none] []
  refine a_aload_n (pc := 15) (i := 0) C dX12_feed_15 rfl rfl ?_
  refine a_lload (pc := 16) (i := 5) C dX12_feed_16 rfl ?_
  refine a_callVv (pc := 18) (As := [.long p5]) (st := []) (ws' := (fun u => (w_X12_feed (cxG X) A_t A_t_tape U_t_size U_t_sort U_t_place U_t_value U_t_at U_t_fault U_t_words U_t_towns U_t_op U_t_arg U_t_codes U_t_facts U_t_pile U_t_shadeDay U_t_sun U_t_isShut U_t_sunny U_t_cost U_t_leastCost U_t_leastEnd U_t_wayOf U_t_wayMany U_t_whereAt U_t_reach U_t_likely U_t_crowdAt U_t_crowdBy U_t_crowdRounds U_t_bestSquare U_t_bestBy U_t_spotsMany U_t_spotAt U_t_followed U_t_followOf U_t_toldMany U_t_toldOf U_t_stepsTo U_t_reachOne U_t_isMarked U_t_markOf 0 u.1 u.2))) C (c_X12_lay A_t A_t_tape (.int 0) U_t_size U_t_sort U_t_place U_t_value U_t_at U_t_fault U_t_words U_t_towns U_t_op U_t_arg U_t_codes U_t_facts U_t_pile U_t_shadeDay U_t_sun U_t_isShut U_t_sunny U_t_cost U_t_leastCost U_t_leastEnd U_t_wayOf U_t_wayMany U_t_whereAt U_t_reach U_t_likely U_t_crowdAt U_t_crowdBy U_t_crowdRounds U_t_bestSquare U_t_bestBy U_t_spotsMany U_t_spotAt U_t_followed U_t_followOf U_t_toldMany U_t_toldOf U_t_stepsTo U_t_reachOne U_t_isMarked U_t_markOf hw) dX12_feed_18 mth_X12_lay tml_X12_7 (fun _ _ h => trivial) Fz0_ok (rml (by decide) (by decide)) (Nat.le_of_ble_eq_true rfl) rfl rfl [0, 1] [] [0, 1] rfl rfl rfl rfl rfl rfl (ci := 12) rfl ⟨0, _, rfl⟩ (fun _ => rfl) rfl (fun _ => rfl) (fun u hw => ?_)
  obtain ⟨t_taped_18, t_tape_18⟩ := u
  dsimp only at hw
  show AW X 7 0 0 (w_X12_feed (cxG X) A_t A_t_tape U_t_size U_t_sort U_t_place U_t_value U_t_at U_t_fault U_t_words U_t_towns U_t_op U_t_arg U_t_codes U_t_facts U_t_pile U_t_shadeDay U_t_sun U_t_isShut U_t_sunny U_t_cost U_t_leastCost U_t_leastEnd U_t_wayOf U_t_wayMany U_t_whereAt U_t_reach U_t_likely U_t_crowdAt U_t_crowdBy U_t_crowdRounds U_t_bestSquare U_t_bestBy U_t_spotsMany U_t_spotAt U_t_followed U_t_followOf U_t_toldMany U_t_toldOf U_t_stepsTo U_t_reachOne U_t_isMarked U_t_markOf 0 t_taped_18 t_tape_18) pl 21 [some (.ref A_t), some (.long p1), none, some (.long p3), none, some (.long p5), none] []
  refine a_aload_n (pc := 21) (i := 0) C dX12_feed_21 rfl rfl ?_
  refine a_get (pc := 22) C fl_X12_11 dX12_feed_22 0 rfl rfl ?_
  exact hret _ _ _ _ _ _ hw dX12_feed_25
theorem c_X12_feed {l : Launch} {g : GG} {pl : Pool} (A_t A_t_tape : Nat) (U_t_size U_t_sort U_t_place U_t_value U_t_at U_t_fault U_t_words U_t_towns U_t_op U_t_arg U_t_codes U_t_facts U_t_pile U_t_shadeDay U_t_sun U_t_isShut U_t_sunny U_t_cost U_t_leastCost U_t_leastEnd U_t_wayOf U_t_wayMany U_t_whereAt U_t_reach U_t_likely U_t_crowdAt U_t_crowdBy U_t_crowdRounds U_t_bestSquare U_t_bestBy U_t_spotsMany U_t_spotAt U_t_followed U_t_followOf U_t_toldMany U_t_toldOf U_t_stepsTo U_t_reachOne U_t_isMarked U_t_markOf : Value) {t_thrown : Int32} {t_taped : Int32} {t_tape : Nat → Int32} {p1 : Int64} {p3 : Int64} {p5 : Int64} {post : Int32 → Int32 → Int32 → (Nat → Int32) → Prop} (hw : wp_X12_feed t_thrown t_taped t_tape p1 p3 p5 post) : MI l yX12_feed cX12_feed 7 (some .int) (rmL 1) g Fz0 [.ref A_t, .long p1, .long p3, .long p5] (w_X12_feed g A_t A_t_tape U_t_size U_t_sort U_t_place U_t_value U_t_at U_t_fault U_t_words U_t_towns U_t_op U_t_arg U_t_codes U_t_facts U_t_pile U_t_shadeDay U_t_sun U_t_isShut U_t_sunny U_t_cost U_t_leastCost U_t_leastEnd U_t_wayOf U_t_wayMany U_t_whereAt U_t_reach U_t_likely U_t_crowdAt U_t_crowdBy U_t_crowdRounds U_t_bestSquare U_t_bestBy U_t_spotsMany U_t_spotAt U_t_followed U_t_followOf U_t_toldMany U_t_toldOf U_t_stepsTo U_t_reachOne U_t_isMarked U_t_markOf t_thrown t_taped t_tape) pl (fun r (u : Int32 × Int32 × (Nat → Int32)) => post r u.1 u.2.1 u.2.2) (fun u => (w_X12_feed g A_t A_t_tape U_t_size U_t_sort U_t_place U_t_value U_t_at U_t_fault U_t_words U_t_towns U_t_op U_t_arg U_t_codes U_t_facts U_t_pile U_t_shadeDay U_t_sun U_t_isShut U_t_sunny U_t_cost U_t_leastCost U_t_leastEnd U_t_wayOf U_t_wayMany U_t_whereAt U_t_reach U_t_likely U_t_crowdAt U_t_crowdBy U_t_crowdRounds U_t_bestSquare U_t_bestBy U_t_spotsMany U_t_spotAt U_t_followed U_t_followOf U_t_toldMany U_t_toldOf U_t_stepsTo U_t_reachOne U_t_isMarked U_t_markOf u.1 u.2.1 u.2.2)) (fun _ => pl) 0 0 := by
  refine met_i (own := RX12) rfl rfl (Nat.le_of_ble_eq_true rfl) (fun X hg hl C hini hret => ?_)
  subst hg
  subst hl
  exact m_X12_feed C (fun r w0 w1 w2 pc lo hp hd => hret r (w0, w1, w2) pc lo hp hd) hw
abbrev w_X12_isLetter (g : GG) : va_W := []
set_option maxRecDepth 20000 in
theorem m_X12_isLetter {X : Ctx} (C : Cok X cX12_isLetter 1 RX12 (rmL 0) Fz0) {pl : Pool} {p0 : Int32} {post : Int32 → Prop} (hret : ∀ (r : Int32) (pc : Nat) (lo : List (Option Value)), b01 r → post r → decode cX12_isLetter pc = .ok (.ireturn, 1) → AW X 1 0 0 (w_X12_isLetter (cxG X)) pl pc lo [.int r]) (hw : wp_X12_isLetter p0 post) : AW X 1 0 0 (w_X12_isLetter (cxG X)) pl 0 [some (.int p0)] [] := by
  refine a_iload_n (pc := 0) (i := 0) C dX12_isLetter_0 rfl rfl ?_
  refine a_bipush (pc := 1) C dX12_isLetter_1 kb_97 ?_
  refine a_icmp_lt (pc := 3) (tgt := 16) C dX12_isLetter_3 (by decide) (fun c_3 => ?_) (fun c_3 => ?_)
  · replace hw := hw.1 c_3
    refine a_iconst (pc := 16) C dX12_isLetter_16 kc_0 ?_
    exact hret _ _ _ (Or.inl rfl) hw dX12_isLetter_17
  · replace hw := hw.2 c_3
    refine a_iload_n (pc := 6) (i := 0) C dX12_isLetter_6 rfl rfl ?_
    refine a_bipush (pc := 7) C dX12_isLetter_7 kb_122 ?_
    refine a_icmp_gt (pc := 9) (tgt := 16) C dX12_isLetter_9 (by decide) (fun c_9 => ?_) (fun c_9 => ?_)
    · replace hw := hw.1 c_9
      refine a_iconst (pc := 16) C dX12_isLetter_16 kc_0 ?_
      exact hret _ _ _ (Or.inl rfl) hw dX12_isLetter_17
    · replace hw := hw.2 c_9
      refine a_iconst (pc := 12) C dX12_isLetter_12 kc_1 ?_
      refine a_goto (pc := 13) (tgt := 17) C dX12_isLetter_13 (by decide) ?_
      exact hret _ _ _ (Or.inr rfl) hw dX12_isLetter_17
theorem c_X12_isLetter {l : Launch} {g : GG} {pl : Pool} {p0 : Int32} {post : Int32 → Prop} (hw : wp_X12_isLetter p0 post) : MI l yX12_isLetter cX12_isLetter 1 (some .boolean) (rmL 0) g Fz0 [.int p0] (w_X12_isLetter g) pl (fun r (_ : Unit) => b01 r ∧ post r) (fun _ => (w_X12_isLetter g)) (fun _ => pl) 0 0 := by
  refine mi_b01 ?_
  refine met_z (own := RX12) rfl rfl (Nat.le_of_ble_eq_true rfl) (fun X hg hl C hini hret => ?_)
  subst hg
  subst hl
  exact m_X12_isLetter C (fun r pc lo z hp hd => hret r () pc lo (b01_nar z) hp hd) hw
abbrev w_X12_isDigit (g : GG) : va_W := []
set_option maxRecDepth 20000 in
theorem m_X12_isDigit {X : Ctx} (C : Cok X cX12_isDigit 1 RX12 (rmL 0) Fz0) {pl : Pool} {p0 : Int32} {post : Int32 → Prop} (hret : ∀ (r : Int32) (pc : Nat) (lo : List (Option Value)), b01 r → post r → decode cX12_isDigit pc = .ok (.ireturn, 1) → AW X 1 0 0 (w_X12_isDigit (cxG X)) pl pc lo [.int r]) (hw : wp_X12_isDigit p0 post) : AW X 1 0 0 (w_X12_isDigit (cxG X)) pl 0 [some (.int p0)] [] := by
  refine a_iload_n (pc := 0) (i := 0) C dX12_isDigit_0 rfl rfl ?_
  refine a_bipush (pc := 1) C dX12_isDigit_1 kb_48 ?_
  refine a_icmp_lt (pc := 3) (tgt := 16) C dX12_isDigit_3 (by decide) (fun c_3 => ?_) (fun c_3 => ?_)
  · replace hw := hw.1 c_3
    refine a_iconst (pc := 16) C dX12_isDigit_16 kc_0 ?_
    exact hret _ _ _ (Or.inl rfl) hw dX12_isDigit_17
  · replace hw := hw.2 c_3
    refine a_iload_n (pc := 6) (i := 0) C dX12_isDigit_6 rfl rfl ?_
    refine a_bipush (pc := 7) C dX12_isDigit_7 kb_57 ?_
    refine a_icmp_gt (pc := 9) (tgt := 16) C dX12_isDigit_9 (by decide) (fun c_9 => ?_) (fun c_9 => ?_)
    · replace hw := hw.1 c_9
      refine a_iconst (pc := 16) C dX12_isDigit_16 kc_0 ?_
      exact hret _ _ _ (Or.inl rfl) hw dX12_isDigit_17
    · replace hw := hw.2 c_9
      refine a_iconst (pc := 12) C dX12_isDigit_12 kc_1 ?_
      refine a_goto (pc := 13) (tgt := 17) C dX12_isDigit_13 (by decide) ?_
      exact hret _ _ _ (Or.inr rfl) hw dX12_isDigit_17
theorem c_X12_isDigit {l : Launch} {g : GG} {pl : Pool} {p0 : Int32} {post : Int32 → Prop} (hw : wp_X12_isDigit p0 post) : MI l yX12_isDigit cX12_isDigit 1 (some .boolean) (rmL 0) g Fz0 [.int p0] (w_X12_isDigit g) pl (fun r (_ : Unit) => b01 r ∧ post r) (fun _ => (w_X12_isDigit g)) (fun _ => pl) 0 0 := by
  refine mi_b01 ?_
  refine met_z (own := RX12) rfl rfl (Nat.le_of_ble_eq_true rfl) (fun X hg hl C hini hret => ?_)
  subst hg
  subst hl
  exact m_X12_isDigit C (fun r pc lo z hp hd => hret r () pc lo (b01_nar z) hp hd) hw
abbrev w_X12_rank (g : GG) : va_W := []
set_option maxRecDepth 20000 in
theorem m_X12_rank {X : Ctx} (C : Cok X cX12_rank 1 RX12 (rmL 1) Fz0) {pl : Pool} {p0 : Int32} {post : Int32 → Prop} (hret : ∀ (r : Int32) (pc : Nat) (lo : List (Option Value)), post r → decode cX12_rank pc = .ok (.ireturn, 1) → AW X 1 0 0 (w_X12_rank (cxG X)) pl pc lo [.int r]) (hw : wp_X12_rank p0 post) : AW X 1 0 0 (w_X12_rank (cxG X)) pl 0 [some (.int p0)] [] := by
  replace hw : wp_X12_isLetter p0 (fun r1 => (r1 = 0 → (post (p0 - 21))) ∧ (¬ r1 = 0 → (post (p0 - 96)))) := hw
  refine a_iload_n (pc := 0) (i := 0) C dX12_rank_0 rfl rfl ?_
  refine a_callSi (pc := 1) (As := [.int p0]) (st := []) (ws' := (fun _ => (w_X12_rank (cxG X)))) C (c_X12_isLetter hw) dX12_rank_1 mth_X12_isLetter tml_X12_173 (fun _ _ h => trivial) Fz0_ok (rml (by decide) (by decide)) (Nat.le_of_ble_eq_true rfl) rfl rfl [] [] [] rfl rfl rfl rfl rfl rfl (fun _ => rfl) rfl (fun _ => rfl) (fun r1 u hw => ?_)
  obtain ⟨z_1, hw⟩ := hw
  show AW X 1 0 0 (w_X12_rank (cxG X)) pl 4 [some (.int p0)] [.int r1]
  refine a_if_eq (pc := 4) (tgt := 14) C dX12_rank_4 (by decide) (fun c_4 => ?_) (fun c_4 => ?_)
  · replace hw := hw.1 c_4
    refine a_iload_n (pc := 14) (i := 0) C dX12_rank_14 rfl rfl ?_
    refine a_bipush (pc := 15) C dX12_rank_15 kb_21 ?_
    refine a_isub (pc := 17) C dX12_rank_17 ?_
    exact hret _ _ _ hw dX12_rank_18
  · replace hw := hw.2 c_4
    refine a_iload_n (pc := 7) (i := 0) C dX12_rank_7 rfl rfl ?_
    refine a_bipush (pc := 8) C dX12_rank_8 kb_96 ?_
    refine a_isub (pc := 10) C dX12_rank_10 ?_
    refine a_goto (pc := 11) (tgt := 18) C dX12_rank_11 (by decide) ?_
    exact hret _ _ _ hw dX12_rank_18
theorem c_X12_rank {l : Launch} {g : GG} {pl : Pool} {p0 : Int32} {post : Int32 → Prop} (hw : wp_X12_rank p0 post) : MI l yX12_rank cX12_rank 1 (some .int) (rmL 1) g Fz0 [.int p0] (w_X12_rank g) pl (fun r (_ : Unit) => post r) (fun _ => (w_X12_rank g)) (fun _ => pl) 0 0 := by
  refine met_i (own := RX12) rfl rfl (Nat.le_of_ble_eq_true rfl) (fun X hg hl C hini hret => ?_)
  subst hg
  subst hl
  exact m_X12_rank C (fun r pc lo hp hd => hret r () pc lo hp hd) hw
abbrev w_X12_isSignOf (g : GG) : va_W := []
set_option maxRecDepth 20000 in
theorem m_X12_isSignOf {X : Ctx} (C : Cok X cX12_isSignOf 1 RX12 (rmL 0) Fz0) {pl : Pool} {p0 : Int32} {post : Int32 → Prop} (hret : ∀ (r : Int32) (pc : Nat) (lo : List (Option Value)), b01 r → post r → decode cX12_isSignOf pc = .ok (.ireturn, 1) → AW X 1 0 0 (w_X12_isSignOf (cxG X)) pl pc lo [.int r]) (hw : wp_X12_isSignOf p0 post) : AW X 1 0 0 (w_X12_isSignOf (cxG X)) pl 0 [some (.int p0)] [] := by
  refine a_iload_n (pc := 0) (i := 0) C dX12_isSignOf_0 rfl rfl ?_
  refine a_bipush (pc := 1) C dX12_isSignOf_1 kb_40 ?_
  refine a_icmp_eq (pc := 3) (tgt := 48) C dX12_isSignOf_3 (by decide) (fun c_3 => ?_) (fun c_3 => ?_)
  · replace hw := hw.1 c_3
    refine a_iconst (pc := 48) C dX12_isSignOf_48 kc_1 ?_
    refine a_goto (pc := 49) (tgt := 53) C dX12_isSignOf_49 (by decide) ?_
    exact hret _ _ _ (Or.inr rfl) hw dX12_isSignOf_53
  · replace hw := hw.2 c_3
    refine a_iload_n (pc := 6) (i := 0) C dX12_isSignOf_6 rfl rfl ?_
    refine a_bipush (pc := 7) C dX12_isSignOf_7 kb_41 ?_
    refine a_icmp_eq (pc := 9) (tgt := 48) C dX12_isSignOf_9 (by decide) (fun c_9 => ?_) (fun c_9 => ?_)
    · replace hw := hw.1 c_9
      refine a_iconst (pc := 48) C dX12_isSignOf_48 kc_1 ?_
      refine a_goto (pc := 49) (tgt := 53) C dX12_isSignOf_49 (by decide) ?_
      exact hret _ _ _ (Or.inr rfl) hw dX12_isSignOf_53
    · replace hw := hw.2 c_9
      refine a_iload_n (pc := 12) (i := 0) C dX12_isSignOf_12 rfl rfl ?_
      refine a_bipush (pc := 13) C dX12_isSignOf_13 kb_59 ?_
      refine a_icmp_eq (pc := 15) (tgt := 48) C dX12_isSignOf_15 (by decide) (fun c_15 => ?_) (fun c_15 => ?_)
      · replace hw := hw.1 c_15
        refine a_iconst (pc := 48) C dX12_isSignOf_48 kc_1 ?_
        refine a_goto (pc := 49) (tgt := 53) C dX12_isSignOf_49 (by decide) ?_
        exact hret _ _ _ (Or.inr rfl) hw dX12_isSignOf_53
      · replace hw := hw.2 c_15
        refine a_iload_n (pc := 18) (i := 0) C dX12_isSignOf_18 rfl rfl ?_
        refine a_bipush (pc := 19) C dX12_isSignOf_19 kb_61 ?_
        refine a_icmp_eq (pc := 21) (tgt := 48) C dX12_isSignOf_21 (by decide) (fun c_21 => ?_) (fun c_21 => ?_)
        · replace hw := hw.1 c_21
          refine a_iconst (pc := 48) C dX12_isSignOf_48 kc_1 ?_
          refine a_goto (pc := 49) (tgt := 53) C dX12_isSignOf_49 (by decide) ?_
          exact hret _ _ _ (Or.inr rfl) hw dX12_isSignOf_53
        · replace hw := hw.2 c_21
          refine a_iload_n (pc := 24) (i := 0) C dX12_isSignOf_24 rfl rfl ?_
          refine a_bipush (pc := 25) C dX12_isSignOf_25 kb_60 ?_
          refine a_icmp_eq (pc := 27) (tgt := 48) C dX12_isSignOf_27 (by decide) (fun c_27 => ?_) (fun c_27 => ?_)
          · replace hw := hw.1 c_27
            refine a_iconst (pc := 48) C dX12_isSignOf_48 kc_1 ?_
            refine a_goto (pc := 49) (tgt := 53) C dX12_isSignOf_49 (by decide) ?_
            exact hret _ _ _ (Or.inr rfl) hw dX12_isSignOf_53
          · replace hw := hw.2 c_27
            refine a_iload_n (pc := 30) (i := 0) C dX12_isSignOf_30 rfl rfl ?_
            refine a_bipush (pc := 31) C dX12_isSignOf_31 kb_43 ?_
            refine a_icmp_eq (pc := 33) (tgt := 48) C dX12_isSignOf_33 (by decide) (fun c_33 => ?_) (fun c_33 => ?_)
            · replace hw := hw.1 c_33
              refine a_iconst (pc := 48) C dX12_isSignOf_48 kc_1 ?_
              refine a_goto (pc := 49) (tgt := 53) C dX12_isSignOf_49 (by decide) ?_
              exact hret _ _ _ (Or.inr rfl) hw dX12_isSignOf_53
            · replace hw := hw.2 c_33
              refine a_iload_n (pc := 36) (i := 0) C dX12_isSignOf_36 rfl rfl ?_
              refine a_bipush (pc := 37) C dX12_isSignOf_37 kb_45 ?_
              refine a_icmp_eq (pc := 39) (tgt := 48) C dX12_isSignOf_39 (by decide) (fun c_39 => ?_) (fun c_39 => ?_)
              · replace hw := hw.1 c_39
                refine a_iconst (pc := 48) C dX12_isSignOf_48 kc_1 ?_
                refine a_goto (pc := 49) (tgt := 53) C dX12_isSignOf_49 (by decide) ?_
                exact hret _ _ _ (Or.inr rfl) hw dX12_isSignOf_53
              · replace hw := hw.2 c_39
                refine a_iload_n (pc := 42) (i := 0) C dX12_isSignOf_42 rfl rfl ?_
                refine a_bipush (pc := 43) C dX12_isSignOf_43 kb_42 ?_
                refine a_icmp_ne (pc := 45) (tgt := 52) C dX12_isSignOf_45 (by decide) (fun c_45 => ?_) (fun c_45 => ?_)
                · replace hw := hw.1 c_45
                  refine a_iconst (pc := 52) C dX12_isSignOf_52 kc_0 ?_
                  exact hret _ _ _ (Or.inl rfl) hw dX12_isSignOf_53
                · replace hw := hw.2 c_45
                  refine a_iconst (pc := 48) C dX12_isSignOf_48 kc_1 ?_
                  refine a_goto (pc := 49) (tgt := 53) C dX12_isSignOf_49 (by decide) ?_
                  exact hret _ _ _ (Or.inr rfl) hw dX12_isSignOf_53
theorem c_X12_isSignOf {l : Launch} {g : GG} {pl : Pool} {p0 : Int32} {post : Int32 → Prop} (hw : wp_X12_isSignOf p0 post) : MI l yX12_isSignOf cX12_isSignOf 1 (some .boolean) (rmL 0) g Fz0 [.int p0] (w_X12_isSignOf g) pl (fun r (_ : Unit) => b01 r ∧ post r) (fun _ => (w_X12_isSignOf g)) (fun _ => pl) 0 0 := by
  refine mi_b01 ?_
  refine met_z (own := RX12) rfl rfl (Nat.le_of_ble_eq_true rfl) (fun X hg hl C hini hret => ?_)
  subst hg
  subst hl
  exact m_X12_isSignOf C (fun r pc lo z hp hd => hret r () pc lo (b01_nar z) hp hd) hw
abbrev w_X12_cutAll (g : GG) (A_t A_t_tape A_t_place A_t_sort A_t_value : Nat) (U_t_thrown U_t_words U_t_towns U_t_op U_t_arg U_t_codes U_t_facts U_t_pile U_t_shadeDay U_t_sun U_t_isShut U_t_sunny U_t_cost U_t_leastCost U_t_leastEnd U_t_wayOf U_t_wayMany U_t_whereAt U_t_reach U_t_likely U_t_crowdAt U_t_crowdBy U_t_crowdRounds U_t_bestSquare U_t_bestBy U_t_spotsMany U_t_spotAt U_t_followed U_t_followOf U_t_toldMany U_t_toldOf U_t_stepsTo U_t_reachOne U_t_isMarked U_t_markOf : Value) (t_taped : Int32) (t_size : Int32) (t_at : Int32) (t_fault : Int32) (t_tape : Nat → Int32) (t_place : Nat → Int32) (t_sort : Nat → Int32) (t_value : Nat → Int64) : va_W := [(A_t, ob 12 [U_t_thrown, .ref A_t_tape, .int t_taped, .int t_size, .ref A_t_sort, .ref A_t_place, .ref A_t_value, .int t_at, .int t_fault, U_t_words, U_t_towns, U_t_op, U_t_arg, U_t_codes, U_t_facts, U_t_pile, U_t_shadeDay, U_t_sun, U_t_isShut, U_t_sunny, U_t_cost, U_t_leastCost, U_t_leastEnd, U_t_wayOf, U_t_wayMany, U_t_whereAt, U_t_reach, U_t_likely, U_t_crowdAt, U_t_crowdBy, U_t_crowdRounds, U_t_bestSquare, U_t_bestBy, U_t_spotsMany, U_t_spotAt, U_t_followed, U_t_followOf, U_t_toldMany, U_t_toldOf, U_t_stepsTo, U_t_reachOne, U_t_isMarked, U_t_markOf]), (A_t_tape, aI g 1000 t_tape), (A_t_place, aI g 1002 t_place), (A_t_sort, aI g 1002 t_sort), (A_t_value, aJ g 1002 t_value)]
set_option maxRecDepth 20000 in
theorem m_X12_cutAll_b265 {X : Ctx} (C : Cok X cX12_cutAll 7 RX12 (rmL 2) Fz0) {pl : Pool} {A_t A_t_tape A_t_place A_t_sort A_t_value : Nat} {U_t_thrown U_t_words U_t_towns U_t_op U_t_arg U_t_codes U_t_facts U_t_pile U_t_shadeDay U_t_sun U_t_isShut U_t_sunny U_t_cost U_t_leastCost U_t_leastEnd U_t_wayOf U_t_wayMany U_t_whereAt U_t_reach U_t_likely U_t_crowdAt U_t_crowdBy U_t_crowdRounds U_t_bestSquare U_t_bestBy U_t_spotsMany U_t_spotAt U_t_followed U_t_followOf U_t_toldMany U_t_toldOf U_t_stepsTo U_t_reachOne U_t_isMarked U_t_markOf : Value} {t_tape : Nat → Int32} {post : Int32 → Int32 → Int32 → Int32 → (Nat → Int32) → (Nat → Int32) → (Nat → Int64) → Prop} (hret : ∀ (w0 : Int32) (w1 : Int32) (w2 : Int32) (w3 : Int32) (w4 : Nat → Int32) (w5 : Nat → Int32) (w6 : Nat → Int64) (pc : Nat) (lo : List (Option Value)), post w0 w1 w2 w3 w4 w5 w6 → decode cX12_cutAll pc = .ok (.return_, 1) → AW X 7 0 0 (w_X12_cutAll (cxG X) A_t A_t_tape A_t_place A_t_sort A_t_value U_t_thrown U_t_words U_t_towns U_t_op U_t_arg U_t_codes U_t_facts U_t_pile U_t_shadeDay U_t_sun U_t_isShut U_t_sunny U_t_cost U_t_leastCost U_t_leastEnd U_t_wayOf U_t_wayMany U_t_whereAt U_t_reach U_t_likely U_t_crowdAt U_t_crowdBy U_t_crowdRounds U_t_bestSquare U_t_bestBy U_t_spotsMany U_t_spotAt U_t_followed U_t_followOf U_t_toldMany U_t_toldOf U_t_stepsTo U_t_reachOne U_t_isMarked U_t_markOf w0 w1 w2 w3 t_tape w4 w5 w6) pl pc lo []) {x_279 : Int32 → Int32 → Int32 → Int32 → (Nat → Int32) → (Nat → Int32) → (Nat → Int64) → Int32 → Prop} {kb : Int32 × Int32 × Int32 × Int32 × (Nat → Int32) × (Nat → Int32) × (Nat → Int64) × Int32 × Int32 → Prop} (hkb : ∀ (t_taped : Int32) (t_size : Int32) (t_at : Int32) (t_fault : Int32) (t_place : Nat → Int32) (t_sort : Nat → Int32) (t_value : Nat → Int64) (l1 : Int32) (l2 : Int32) , kb (t_taped, t_size, t_at, t_fault, t_place, t_sort, t_value, l1, l2) → AW X 7 0 0 (w_X12_cutAll (cxG X) A_t A_t_tape A_t_place A_t_sort A_t_value U_t_thrown U_t_words U_t_towns U_t_op U_t_arg U_t_codes U_t_facts U_t_pile U_t_shadeDay U_t_sun U_t_isShut U_t_sunny U_t_cost U_t_leastCost U_t_leastEnd U_t_wayOf U_t_wayMany U_t_whereAt U_t_reach U_t_likely U_t_crowdAt U_t_crowdBy U_t_crowdRounds U_t_bestSquare U_t_bestBy U_t_spotsMany U_t_spotAt U_t_followed U_t_followOf U_t_toldMany U_t_toldOf U_t_stepsTo U_t_reachOne U_t_isMarked U_t_markOf t_taped t_size t_at t_fault t_tape t_place t_sort t_value) pl 17 [some (.ref A_t), some (.int l1), some (.int l2), none, none, none, none] []) (hx_279 : ∀ (t_taped : Int32) (t_size : Int32) (t_at : Int32) (t_fault : Int32) (t_place : Nat → Int32) (t_sort : Nat → Int32) (t_value : Nat → Int64) (l1 : Int32) , x_279 t_taped t_size t_at t_fault t_place t_sort t_value l1 → AW X 7 0 0 (w_X12_cutAll (cxG X) A_t A_t_tape A_t_place A_t_sort A_t_value U_t_thrown U_t_words U_t_towns U_t_op U_t_arg U_t_codes U_t_facts U_t_pile U_t_shadeDay U_t_sun U_t_isShut U_t_sunny U_t_cost U_t_leastCost U_t_leastEnd U_t_wayOf U_t_wayMany U_t_whereAt U_t_reach U_t_likely U_t_crowdAt U_t_crowdBy U_t_crowdRounds U_t_bestSquare U_t_bestBy U_t_spotsMany U_t_spotAt U_t_followed U_t_followOf U_t_toldMany U_t_toldOf U_t_stepsTo U_t_reachOne U_t_isMarked U_t_markOf t_taped t_size t_at t_fault t_tape t_place t_sort t_value) pl 279 [some (.ref A_t), some (.int l1), none, none, none, none, none] []) {t_taped : Int32} {t_size : Int32} {t_at : Int32} {t_fault : Int32} {t_place : Nat → Int32} {t_sort : Nat → Int32} {t_value : Nat → Int64} {l1 : Int32} {l2 : Int32} {l5 : Int64} (hw : wp_X12_cutAll_b265  x_279 kb t_tape post t_taped t_size t_at t_fault t_place t_sort t_value l1 l2 l5) : AW X 7 0 0 (w_X12_cutAll (cxG X) A_t A_t_tape A_t_place A_t_sort A_t_value U_t_thrown U_t_words U_t_towns U_t_op U_t_arg U_t_codes U_t_facts U_t_pile U_t_shadeDay U_t_sun U_t_isShut U_t_sunny U_t_cost U_t_leastCost U_t_leastEnd U_t_wayOf U_t_wayMany U_t_whereAt U_t_reach U_t_likely U_t_crowdAt U_t_crowdBy U_t_crowdRounds U_t_bestSquare U_t_bestBy U_t_spotsMany U_t_spotAt U_t_followed U_t_followOf U_t_toldMany U_t_toldOf U_t_stepsTo U_t_reachOne U_t_isMarked U_t_markOf t_taped t_size t_at t_fault t_tape t_place t_sort t_value) pl 265 [some (.ref A_t), some (.int l1), some (.int l2), none, none, some (.long l5), none] [] := by
  refine a_aload_n (pc := 265) (i := 0) C dX12_cutAll_265 rfl rfl ?_
  refine a_get (pc := 266) C fl_X12_30 dX12_cutAll_266 0 rfl rfl ?_
  refine a_iload_n (pc := 269) (i := 1) C dX12_cutAll_269 rfl rfl ?_
  refine a_lload (pc := 270) (i := 5) C dX12_cutAll_270 rfl ?_
  obtain ⟨i_272, hw⟩ := hw
  refine a_lastW (pc := 272) C (fun h => (w_X12_cutAll (cxG X) A_t A_t_tape A_t_place A_t_sort A_t_value U_t_thrown U_t_words U_t_towns U_t_op U_t_arg U_t_codes U_t_facts U_t_pile U_t_shadeDay U_t_sun U_t_isShut U_t_sunny U_t_cost U_t_leastCost U_t_leastEnd U_t_wayOf U_t_wayMany U_t_whereAt U_t_reach U_t_likely U_t_crowdAt U_t_crowdBy U_t_crowdRounds U_t_bestSquare U_t_bestBy U_t_spotsMany U_t_spotAt U_t_followed U_t_followOf U_t_toldMany U_t_toldOf U_t_stepsTo U_t_reachOne U_t_isMarked U_t_markOf t_taped t_size t_at t_fault t_tape t_place t_sort h)) dX12_cutAll_272 4 rfl i_272 (fun _ => rfl) (fun t_value_272 e_t_value_272 => ?_)
  replace hw := hw t_value_272 e_t_value_272
  refine a_inc (pc := 273) (i := 1) C (fun y => [some (.ref A_t), some (.int y), some (.int l2), none, none, some (.long l5), none]) dX12_cutAll_273 rfl kc_1 (by decide) rfl (fun _ => rfl) (fun y273 e_y273 => ?_)
  replace hw := hw y273 e_y273
  refine a_goto (pc := 276) (tgt := 17) C dX12_cutAll_276 (by decide) ?_
  refine a_msk [true, true, true, true, true, false, true] rfl ?_
  exact hkb _ _ _ _ _ _ _ _ _ hw
set_option maxRecDepth 20000 in
theorem m_X12_cutAll_b261 {X : Ctx} (C : Cok X cX12_cutAll 7 RX12 (rmL 2) Fz0) {pl : Pool} {A_t A_t_tape A_t_place A_t_sort A_t_value : Nat} {U_t_thrown U_t_words U_t_towns U_t_op U_t_arg U_t_codes U_t_facts U_t_pile U_t_shadeDay U_t_sun U_t_isShut U_t_sunny U_t_cost U_t_leastCost U_t_leastEnd U_t_wayOf U_t_wayMany U_t_whereAt U_t_reach U_t_likely U_t_crowdAt U_t_crowdBy U_t_crowdRounds U_t_bestSquare U_t_bestBy U_t_spotsMany U_t_spotAt U_t_followed U_t_followOf U_t_toldMany U_t_toldOf U_t_stepsTo U_t_reachOne U_t_isMarked U_t_markOf : Value} {t_tape : Nat → Int32} {post : Int32 → Int32 → Int32 → Int32 → (Nat → Int32) → (Nat → Int32) → (Nat → Int64) → Prop} (hret : ∀ (w0 : Int32) (w1 : Int32) (w2 : Int32) (w3 : Int32) (w4 : Nat → Int32) (w5 : Nat → Int32) (w6 : Nat → Int64) (pc : Nat) (lo : List (Option Value)), post w0 w1 w2 w3 w4 w5 w6 → decode cX12_cutAll pc = .ok (.return_, 1) → AW X 7 0 0 (w_X12_cutAll (cxG X) A_t A_t_tape A_t_place A_t_sort A_t_value U_t_thrown U_t_words U_t_towns U_t_op U_t_arg U_t_codes U_t_facts U_t_pile U_t_shadeDay U_t_sun U_t_isShut U_t_sunny U_t_cost U_t_leastCost U_t_leastEnd U_t_wayOf U_t_wayMany U_t_whereAt U_t_reach U_t_likely U_t_crowdAt U_t_crowdBy U_t_crowdRounds U_t_bestSquare U_t_bestBy U_t_spotsMany U_t_spotAt U_t_followed U_t_followOf U_t_toldMany U_t_toldOf U_t_stepsTo U_t_reachOne U_t_isMarked U_t_markOf w0 w1 w2 w3 t_tape w4 w5 w6) pl pc lo []) {x_279 : Int32 → Int32 → Int32 → Int32 → (Nat → Int32) → (Nat → Int32) → (Nat → Int64) → Int32 → Prop} {kb : Int32 × Int32 × Int32 × Int32 × (Nat → Int32) × (Nat → Int32) × (Nat → Int64) × Int32 × Int32 → Prop} (hkb : ∀ (t_taped : Int32) (t_size : Int32) (t_at : Int32) (t_fault : Int32) (t_place : Nat → Int32) (t_sort : Nat → Int32) (t_value : Nat → Int64) (l1 : Int32) (l2 : Int32) , kb (t_taped, t_size, t_at, t_fault, t_place, t_sort, t_value, l1, l2) → AW X 7 0 0 (w_X12_cutAll (cxG X) A_t A_t_tape A_t_place A_t_sort A_t_value U_t_thrown U_t_words U_t_towns U_t_op U_t_arg U_t_codes U_t_facts U_t_pile U_t_shadeDay U_t_sun U_t_isShut U_t_sunny U_t_cost U_t_leastCost U_t_leastEnd U_t_wayOf U_t_wayMany U_t_whereAt U_t_reach U_t_likely U_t_crowdAt U_t_crowdBy U_t_crowdRounds U_t_bestSquare U_t_bestBy U_t_spotsMany U_t_spotAt U_t_followed U_t_followOf U_t_toldMany U_t_toldOf U_t_stepsTo U_t_reachOne U_t_isMarked U_t_markOf t_taped t_size t_at t_fault t_tape t_place t_sort t_value) pl 17 [some (.ref A_t), some (.int l1), some (.int l2), none, none, none, none] []) (hx_279 : ∀ (t_taped : Int32) (t_size : Int32) (t_at : Int32) (t_fault : Int32) (t_place : Nat → Int32) (t_sort : Nat → Int32) (t_value : Nat → Int64) (l1 : Int32) , x_279 t_taped t_size t_at t_fault t_place t_sort t_value l1 → AW X 7 0 0 (w_X12_cutAll (cxG X) A_t A_t_tape A_t_place A_t_sort A_t_value U_t_thrown U_t_words U_t_towns U_t_op U_t_arg U_t_codes U_t_facts U_t_pile U_t_shadeDay U_t_sun U_t_isShut U_t_sunny U_t_cost U_t_leastCost U_t_leastEnd U_t_wayOf U_t_wayMany U_t_whereAt U_t_reach U_t_likely U_t_crowdAt U_t_crowdBy U_t_crowdRounds U_t_bestSquare U_t_bestBy U_t_spotsMany U_t_spotAt U_t_followed U_t_followOf U_t_toldMany U_t_toldOf U_t_stepsTo U_t_reachOne U_t_isMarked U_t_markOf t_taped t_size t_at t_fault t_tape t_place t_sort t_value) pl 279 [some (.ref A_t), some (.int l1), none, none, none, none, none] []) {t_taped : Int32} {t_size : Int32} {t_at : Int32} {t_fault : Int32} {t_place : Nat → Int32} {t_sort : Nat → Int32} {t_value : Nat → Int64} {l1 : Int32} {l2 : Int32} {l5 : Int64} {s0 : Int32} {s1 : Int32} (hw : wp_X12_cutAll_b261  x_279 kb t_tape post t_taped t_size t_at t_fault t_place t_sort t_value l1 l2 l5 s0 s1) : AW X 7 0 0 (w_X12_cutAll (cxG X) A_t A_t_tape A_t_place A_t_sort A_t_value U_t_thrown U_t_words U_t_towns U_t_op U_t_arg U_t_codes U_t_facts U_t_pile U_t_shadeDay U_t_sun U_t_isShut U_t_sunny U_t_cost U_t_leastCost U_t_leastEnd U_t_wayOf U_t_wayMany U_t_whereAt U_t_reach U_t_likely U_t_crowdAt U_t_crowdBy U_t_crowdRounds U_t_bestSquare U_t_bestBy U_t_spotsMany U_t_spotAt U_t_followed U_t_followOf U_t_toldMany U_t_toldOf U_t_stepsTo U_t_reachOne U_t_isMarked U_t_markOf t_taped t_size t_at t_fault t_tape t_place t_sort t_value) pl 261 [some (.ref A_t), some (.int l1), some (.int l2), none, none, some (.long l5), none] [.int s0, .int s1, .ref A_t_sort] := by
  obtain ⟨i_261, hw⟩ := hw
  refine a_iastW (pc := 261) C (fun h => (w_X12_cutAll (cxG X) A_t A_t_tape A_t_place A_t_sort A_t_value U_t_thrown U_t_words U_t_towns U_t_op U_t_arg U_t_codes U_t_facts U_t_pile U_t_shadeDay U_t_sun U_t_isShut U_t_sunny U_t_cost U_t_leastCost U_t_leastEnd U_t_wayOf U_t_wayMany U_t_whereAt U_t_reach U_t_likely U_t_crowdAt U_t_crowdBy U_t_crowdRounds U_t_bestSquare U_t_bestBy U_t_spotsMany U_t_spotAt U_t_followed U_t_followOf U_t_toldMany U_t_toldOf U_t_stepsTo U_t_reachOne U_t_isMarked U_t_markOf t_taped t_size t_at t_fault t_tape t_place h t_value)) dX12_cutAll_261 3 rfl i_261 (fun _ => rfl) (fun t_sort_261 e_t_sort_261 => ?_)
  replace hw := hw t_sort_261 e_t_sort_261
  refine a_inc (pc := 262) (i := 2) C (fun y => [some (.ref A_t), some (.int l1), some (.int y), none, none, some (.long l5), none]) dX12_cutAll_262 rfl kc_1 (by decide) rfl (fun _ => rfl) (fun y262 e_y262 => ?_)
  replace hw := hw y262 e_y262
  exact m_X12_cutAll_b265 C hret (kb := kb) hkb hx_279 hw
set_option maxRecDepth 20000 in
theorem m_X12_cutAll_L159 {X : Ctx} (C : Cok X cX12_cutAll 7 RX12 (rmL 2) Fz0) {pl : Pool} {A_t A_t_tape A_t_place A_t_sort A_t_value : Nat} {U_t_thrown U_t_words U_t_towns U_t_op U_t_arg U_t_codes U_t_facts U_t_pile U_t_shadeDay U_t_sun U_t_isShut U_t_sunny U_t_cost U_t_leastCost U_t_leastEnd U_t_wayOf U_t_wayMany U_t_whereAt U_t_reach U_t_likely U_t_crowdAt U_t_crowdBy U_t_crowdRounds U_t_bestSquare U_t_bestBy U_t_spotsMany U_t_spotAt U_t_followed U_t_followOf U_t_toldMany U_t_toldOf U_t_stepsTo U_t_reachOne U_t_isMarked U_t_markOf : Value} {t_tape : Nat → Int32} {post : Int32 → Int32 → Int32 → Int32 → (Nat → Int32) → (Nat → Int32) → (Nat → Int64) → Prop} (hret : ∀ (w0 : Int32) (w1 : Int32) (w2 : Int32) (w3 : Int32) (w4 : Nat → Int32) (w5 : Nat → Int32) (w6 : Nat → Int64) (pc : Nat) (lo : List (Option Value)), post w0 w1 w2 w3 w4 w5 w6 → decode cX12_cutAll pc = .ok (.return_, 1) → AW X 7 0 0 (w_X12_cutAll (cxG X) A_t A_t_tape A_t_place A_t_sort A_t_value U_t_thrown U_t_words U_t_towns U_t_op U_t_arg U_t_codes U_t_facts U_t_pile U_t_shadeDay U_t_sun U_t_isShut U_t_sunny U_t_cost U_t_leastCost U_t_leastEnd U_t_wayOf U_t_wayMany U_t_whereAt U_t_reach U_t_likely U_t_crowdAt U_t_crowdBy U_t_crowdRounds U_t_bestSquare U_t_bestBy U_t_spotsMany U_t_spotAt U_t_followed U_t_followOf U_t_toldMany U_t_toldOf U_t_stepsTo U_t_reachOne U_t_isMarked U_t_markOf w0 w1 w2 w3 t_tape w4 w5 w6) pl pc lo []) {x_218 : Int32 → Int32 → Int32 → Int32 → (Nat → Int32) → (Nat → Int32) → (Nat → Int64) → Int32 → Int32 → Int32 → Int64 → Prop} (hx_218 : ∀ (t_taped : Int32) (t_size : Int32) (t_at : Int32) (t_fault : Int32) (t_place : Nat → Int32) (t_sort : Nat → Int32) (t_value : Nat → Int64) (l1 : Int32) (l2 : Int32) (l4 : Int32) (l5 : Int64) , x_218 t_taped t_size t_at t_fault t_place t_sort t_value l1 l2 l4 l5 → AW X 7 0 0 (w_X12_cutAll (cxG X) A_t A_t_tape A_t_place A_t_sort A_t_value U_t_thrown U_t_words U_t_towns U_t_op U_t_arg U_t_codes U_t_facts U_t_pile U_t_shadeDay U_t_sun U_t_isShut U_t_sunny U_t_cost U_t_leastCost U_t_leastEnd U_t_wayOf U_t_wayMany U_t_whereAt U_t_reach U_t_likely U_t_crowdAt U_t_crowdBy U_t_crowdRounds U_t_bestSquare U_t_bestBy U_t_spotsMany U_t_spotAt U_t_followed U_t_followOf U_t_toldMany U_t_toldOf U_t_stepsTo U_t_reachOne U_t_isMarked U_t_markOf t_taped t_size t_at t_fault t_tape t_place t_sort t_value) pl 218 [some (.ref A_t), some (.int l1), some (.int l2), none, some (.int l4), some (.long l5), none] []) : ∀ (n159 : Nat) (t_taped : Int32) (t_size : Int32) (t_at : Int32) (t_fault : Int32) (t_place : Nat → Int32) (t_sort : Nat → Int32) (t_value : Nat → Int64) (l1 : Int32) (l2 : Int32) (l4 : Int32) (l5 : Int64) , lp (wp_X12_cutAll_L159 x_218 t_tape post) n159 (t_taped, t_size, t_at, t_fault, t_place, t_sort, t_value, l1, l2, l4, l5) → AW X 7 0 0 (w_X12_cutAll (cxG X) A_t A_t_tape A_t_place A_t_sort A_t_value U_t_thrown U_t_words U_t_towns U_t_op U_t_arg U_t_codes U_t_facts U_t_pile U_t_shadeDay U_t_sun U_t_isShut U_t_sunny U_t_cost U_t_leastCost U_t_leastEnd U_t_wayOf U_t_wayMany U_t_whereAt U_t_reach U_t_likely U_t_crowdAt U_t_crowdBy U_t_crowdRounds U_t_bestSquare U_t_bestBy U_t_spotsMany U_t_spotAt U_t_followed U_t_followOf U_t_toldMany U_t_toldOf U_t_stepsTo U_t_reachOne U_t_isMarked U_t_markOf t_taped t_size t_at t_fault t_tape t_place t_sort t_value) pl 159 [some (.ref A_t), some (.int l1), some (.int l2), none, some (.int l4), some (.long l5), none] [] := by
  intro n159
  induction n159 with
  | zero => exact fun _ _ _ _ _ _ _ _ _ _ _ hw => hw.elim
  | succ n159 hkb =>
    intro t_taped t_size t_at t_fault t_place t_sort t_value l1 l2 l4 l5 hw
    replace hw : wp_X12_cutAll_L159 x_218 t_tape post (lp (wp_X12_cutAll_L159 x_218 t_tape post) n159) (t_taped, t_size, t_at, t_fault, t_place, t_sort, t_value, l1, l2, l4, l5) := hw
    generalize lp (wp_X12_cutAll_L159 x_218 t_tape post) n159 = kb at hw hkb
    refine a_iload_n (pc := 159) (i := 2) C dX12_cutAll_159 rfl rfl ?_
    refine a_aload_n (pc := 160) (i := 0) C dX12_cutAll_160 rfl rfl ?_
    refine a_get (pc := 161) C fl_X12_177 dX12_cutAll_161 0 rfl rfl ?_
    refine a_icmp_ge (pc := 164) (tgt := 218) C dX12_cutAll_164 (by decide) (fun c_164 => ?_) (fun c_164 => ?_)
    · replace hw := hw.1 c_164
      exact hx_218 _ _ _ _ _ _ _ _ _ _ _ hw
    · replace hw := hw.2 c_164
      refine a_aload_n (pc := 167) (i := 0) C dX12_cutAll_167 rfl rfl ?_
      refine a_get (pc := 168) C fl_X12_14 dX12_cutAll_168 0 rfl rfl ?_
      refine a_iload_n (pc := 171) (i := 2) C dX12_cutAll_171 rfl rfl ?_
      obtain ⟨i_172, hw⟩ := hw
      refine a_iald (pc := 172) C dX12_cutAll_172 1 rfl i_172 ?_
      refine a_callSi (pc := 173) (As := [.int (t_tape (Int32.toNatClampNeg l2))]) (st := []) (ws' := (fun _ => (w_X12_cutAll (cxG X) A_t A_t_tape A_t_place A_t_sort A_t_value U_t_thrown U_t_words U_t_towns U_t_op U_t_arg U_t_codes U_t_facts U_t_pile U_t_shadeDay U_t_sun U_t_isShut U_t_sunny U_t_cost U_t_leastCost U_t_leastEnd U_t_wayOf U_t_wayMany U_t_whereAt U_t_reach U_t_likely U_t_crowdAt U_t_crowdBy U_t_crowdRounds U_t_bestSquare U_t_bestBy U_t_spotsMany U_t_spotAt U_t_followed U_t_followOf U_t_toldMany U_t_toldOf U_t_stepsTo U_t_reachOne U_t_isMarked U_t_markOf t_taped t_size t_at t_fault t_tape t_place t_sort t_value))) C (c_X12_isDigit hw) dX12_cutAll_173 mth_X12_isDigit tml_X12_186 (fun _ _ h => trivial) Fz0_ok (rml (by decide) (by decide)) (Nat.le_of_ble_eq_true rfl) rfl rfl [] [0, 1, 2, 3, 4] [0, 1, 2, 3, 4] rfl rfl rfl rfl rfl rfl (fun _ => rfl) rfl (fun _ => rfl) (fun r173 u hw => ?_)
      obtain ⟨z_173, hw⟩ := hw
      show AW X 7 0 0 (w_X12_cutAll (cxG X) A_t A_t_tape A_t_place A_t_sort A_t_value U_t_thrown U_t_words U_t_towns U_t_op U_t_arg U_t_codes U_t_facts U_t_pile U_t_shadeDay U_t_sun U_t_isShut U_t_sunny U_t_cost U_t_leastCost U_t_leastEnd U_t_wayOf U_t_wayMany U_t_whereAt U_t_reach U_t_likely U_t_crowdAt U_t_crowdBy U_t_crowdRounds U_t_bestSquare U_t_bestBy U_t_spotsMany U_t_spotAt U_t_followed U_t_followOf U_t_toldMany U_t_toldOf U_t_stepsTo U_t_reachOne U_t_isMarked U_t_markOf t_taped t_size t_at t_fault t_tape t_place t_sort t_value) pl 176 [some (.ref A_t), some (.int l1), some (.int l2), none, some (.int l4), some (.long l5), none] [.int r173]
      refine a_if_eq (pc := 176) (tgt := 218) C dX12_cutAll_176 (by decide) (fun c_176 => ?_) (fun c_176 => ?_)
      · replace hw := hw.1 c_176
        exact hx_218 _ _ _ _ _ _ _ _ _ _ _ hw
      · replace hw := hw.2 c_176
        refine a_iload_n (pc := 179) (i := 2) C dX12_cutAll_179 rfl rfl ?_
        refine a_iload (pc := 180) (i := 4) C dX12_cutAll_180 rfl ?_
        refine a_isub (pc := 182) C dX12_cutAll_182 ?_
        refine a_iconst (pc := 183) C dX12_cutAll_183 kc_4 ?_
        refine a_icmp_ge (pc := 184) (tgt := 208) C dX12_cutAll_184 (by decide) (fun c_184 => ?_) (fun c_184 => ?_)
        · replace hw := hw.1 c_184
          refine a_lload (pc := 208) (i := 5) C dX12_cutAll_208 rfl ?_
          refine s_lstore (pc := 210) (i := 5) (lo' := [some (.ref A_t), some (.int l1), some (.int l2), none, some (.int l4), some (.long l5), none]) C dX12_cutAll_210 (by decide) rfl rfl ?_
          refine a_inc (pc := 212) (i := 2) C (fun y => [some (.ref A_t), some (.int l1), some (.int y), none, some (.int l4), some (.long l5), none]) dX12_cutAll_212 rfl kc_1 (by decide) rfl (fun _ => rfl) (fun y212 e_y212 => ?_)
          replace hw := hw y212 e_y212
          refine a_goto (pc := 215) (tgt := 159) C dX12_cutAll_215 (by decide) ?_
          exact hkb _ _ _ _ _ _ _ _ _ _ _ hw
        · replace hw := hw.2 c_184
          refine a_ldc2 (pc := 187) C dX12_cutAll_187 tk_X12_189 ?_
          refine a_lload (pc := 190) (i := 5) C dX12_cutAll_190 rfl ?_
          refine a_lmul (pc := 192) C dX12_cutAll_192 ?_
          refine a_aload_n (pc := 193) (i := 0) C dX12_cutAll_193 rfl rfl ?_
          refine a_get (pc := 194) C fl_X12_14 dX12_cutAll_194 0 rfl rfl ?_
          refine a_iload_n (pc := 197) (i := 2) C dX12_cutAll_197 rfl rfl ?_
          obtain ⟨i_198, hw⟩ := hw
          refine a_iald (pc := 198) C dX12_cutAll_198 1 rfl i_198 ?_
          refine a_i2l (pc := 199) C dX12_cutAll_199 ?_
          refine a_ladd (pc := 200) C dX12_cutAll_200 ?_
          refine a_ldc2 (pc := 201) C dX12_cutAll_201 tk_X12_191 ?_
          refine a_lsub (pc := 204) C dX12_cutAll_204 ?_
          refine a_goto (pc := 205) (tgt := 210) C dX12_cutAll_205 (by decide) ?_
          refine a_topl (fun x210 e_x210 => ?_)
          replace hw := hw x210 e_x210
          refine s_lstore (pc := 210) (i := 5) (lo' := [some (.ref A_t), some (.int l1), some (.int l2), none, some (.int l4), some (.long x210), none]) C dX12_cutAll_210 (by decide) rfl rfl ?_
          refine a_inc (pc := 212) (i := 2) C (fun y => [some (.ref A_t), some (.int l1), some (.int y), none, some (.int l4), some (.long x210), none]) dX12_cutAll_212 rfl kc_1 (by decide) rfl (fun _ => rfl) (fun y212 e_y212 => ?_)
          replace hw := hw y212 e_y212
          refine a_goto (pc := 215) (tgt := 159) C dX12_cutAll_215 (by decide) ?_
          exact hkb _ _ _ _ _ _ _ _ _ _ _ hw
set_option maxRecDepth 20000 in
theorem m_X12_cutAll_b236 {X : Ctx} (C : Cok X cX12_cutAll 7 RX12 (rmL 2) Fz0) {pl : Pool} {A_t A_t_tape A_t_place A_t_sort A_t_value : Nat} {U_t_thrown U_t_words U_t_towns U_t_op U_t_arg U_t_codes U_t_facts U_t_pile U_t_shadeDay U_t_sun U_t_isShut U_t_sunny U_t_cost U_t_leastCost U_t_leastEnd U_t_wayOf U_t_wayMany U_t_whereAt U_t_reach U_t_likely U_t_crowdAt U_t_crowdBy U_t_crowdRounds U_t_bestSquare U_t_bestBy U_t_spotsMany U_t_spotAt U_t_followed U_t_followOf U_t_toldMany U_t_toldOf U_t_stepsTo U_t_reachOne U_t_isMarked U_t_markOf : Value} {t_tape : Nat → Int32} {post : Int32 → Int32 → Int32 → Int32 → (Nat → Int32) → (Nat → Int32) → (Nat → Int64) → Prop} (hret : ∀ (w0 : Int32) (w1 : Int32) (w2 : Int32) (w3 : Int32) (w4 : Nat → Int32) (w5 : Nat → Int32) (w6 : Nat → Int64) (pc : Nat) (lo : List (Option Value)), post w0 w1 w2 w3 w4 w5 w6 → decode cX12_cutAll pc = .ok (.return_, 1) → AW X 7 0 0 (w_X12_cutAll (cxG X) A_t A_t_tape A_t_place A_t_sort A_t_value U_t_thrown U_t_words U_t_towns U_t_op U_t_arg U_t_codes U_t_facts U_t_pile U_t_shadeDay U_t_sun U_t_isShut U_t_sunny U_t_cost U_t_leastCost U_t_leastEnd U_t_wayOf U_t_wayMany U_t_whereAt U_t_reach U_t_likely U_t_crowdAt U_t_crowdBy U_t_crowdRounds U_t_bestSquare U_t_bestBy U_t_spotsMany U_t_spotAt U_t_followed U_t_followOf U_t_toldMany U_t_toldOf U_t_stepsTo U_t_reachOne U_t_isMarked U_t_markOf w0 w1 w2 w3 t_tape w4 w5 w6) pl pc lo []) {x_279 : Int32 → Int32 → Int32 → Int32 → (Nat → Int32) → (Nat → Int32) → (Nat → Int64) → Int32 → Prop} {kb : Int32 × Int32 × Int32 × Int32 × (Nat → Int32) × (Nat → Int32) × (Nat → Int64) × Int32 × Int32 → Prop} (hkb : ∀ (t_taped : Int32) (t_size : Int32) (t_at : Int32) (t_fault : Int32) (t_place : Nat → Int32) (t_sort : Nat → Int32) (t_value : Nat → Int64) (l1 : Int32) (l2 : Int32) , kb (t_taped, t_size, t_at, t_fault, t_place, t_sort, t_value, l1, l2) → AW X 7 0 0 (w_X12_cutAll (cxG X) A_t A_t_tape A_t_place A_t_sort A_t_value U_t_thrown U_t_words U_t_towns U_t_op U_t_arg U_t_codes U_t_facts U_t_pile U_t_shadeDay U_t_sun U_t_isShut U_t_sunny U_t_cost U_t_leastCost U_t_leastEnd U_t_wayOf U_t_wayMany U_t_whereAt U_t_reach U_t_likely U_t_crowdAt U_t_crowdBy U_t_crowdRounds U_t_bestSquare U_t_bestBy U_t_spotsMany U_t_spotAt U_t_followed U_t_followOf U_t_toldMany U_t_toldOf U_t_stepsTo U_t_reachOne U_t_isMarked U_t_markOf t_taped t_size t_at t_fault t_tape t_place t_sort t_value) pl 17 [some (.ref A_t), some (.int l1), some (.int l2), none, none, none, none] []) (hx_279 : ∀ (t_taped : Int32) (t_size : Int32) (t_at : Int32) (t_fault : Int32) (t_place : Nat → Int32) (t_sort : Nat → Int32) (t_value : Nat → Int64) (l1 : Int32) , x_279 t_taped t_size t_at t_fault t_place t_sort t_value l1 → AW X 7 0 0 (w_X12_cutAll (cxG X) A_t A_t_tape A_t_place A_t_sort A_t_value U_t_thrown U_t_words U_t_towns U_t_op U_t_arg U_t_codes U_t_facts U_t_pile U_t_shadeDay U_t_sun U_t_isShut U_t_sunny U_t_cost U_t_leastCost U_t_leastEnd U_t_wayOf U_t_wayMany U_t_whereAt U_t_reach U_t_likely U_t_crowdAt U_t_crowdBy U_t_crowdRounds U_t_bestSquare U_t_bestBy U_t_spotsMany U_t_spotAt U_t_followed U_t_followOf U_t_toldMany U_t_toldOf U_t_stepsTo U_t_reachOne U_t_isMarked U_t_markOf t_taped t_size t_at t_fault t_tape t_place t_sort t_value) pl 279 [some (.ref A_t), some (.int l1), none, none, none, none, none] []) {t_taped : Int32} {t_size : Int32} {t_at : Int32} {t_fault : Int32} {t_place : Nat → Int32} {t_sort : Nat → Int32} {t_value : Nat → Int64} {l1 : Int32} {l2 : Int32} {l5 : Int64} {s0 : Int32} {s1 : Int32} (hw : wp_X12_cutAll_b236  x_279 kb t_tape post t_taped t_size t_at t_fault t_place t_sort t_value l1 l2 l5 s0 s1) : AW X 7 0 0 (w_X12_cutAll (cxG X) A_t A_t_tape A_t_place A_t_sort A_t_value U_t_thrown U_t_words U_t_towns U_t_op U_t_arg U_t_codes U_t_facts U_t_pile U_t_shadeDay U_t_sun U_t_isShut U_t_sunny U_t_cost U_t_leastCost U_t_leastEnd U_t_wayOf U_t_wayMany U_t_whereAt U_t_reach U_t_likely U_t_crowdAt U_t_crowdBy U_t_crowdRounds U_t_bestSquare U_t_bestBy U_t_spotsMany U_t_spotAt U_t_followed U_t_followOf U_t_toldMany U_t_toldOf U_t_stepsTo U_t_reachOne U_t_isMarked U_t_markOf t_taped t_size t_at t_fault t_tape t_place t_sort t_value) pl 236 [some (.ref A_t), some (.int l1), some (.int l2), none, none, some (.long l5), none] [.int s0, .int s1, .ref A_t_sort] := by
  obtain ⟨i_236, hw⟩ := hw
  refine a_iastW (pc := 236) C (fun h => (w_X12_cutAll (cxG X) A_t A_t_tape A_t_place A_t_sort A_t_value U_t_thrown U_t_words U_t_towns U_t_op U_t_arg U_t_codes U_t_facts U_t_pile U_t_shadeDay U_t_sun U_t_isShut U_t_sunny U_t_cost U_t_leastCost U_t_leastEnd U_t_wayOf U_t_wayMany U_t_whereAt U_t_reach U_t_likely U_t_crowdAt U_t_crowdBy U_t_crowdRounds U_t_bestSquare U_t_bestBy U_t_spotsMany U_t_spotAt U_t_followed U_t_followOf U_t_toldMany U_t_toldOf U_t_stepsTo U_t_reachOne U_t_isMarked U_t_markOf t_taped t_size t_at t_fault t_tape t_place h t_value)) dX12_cutAll_236 3 rfl i_236 (fun _ => rfl) (fun t_sort_236 e_t_sort_236 => ?_)
  replace hw := hw t_sort_236 e_t_sort_236
  refine a_goto (pc := 237) (tgt := 265) C dX12_cutAll_237 (by decide) ?_
  exact m_X12_cutAll_b265 C hret (kb := kb) hkb hx_279 hw
set_option maxRecDepth 20000 in
theorem m_X12_cutAll_b218 {X : Ctx} (C : Cok X cX12_cutAll 7 RX12 (rmL 2) Fz0) {pl : Pool} {A_t A_t_tape A_t_place A_t_sort A_t_value : Nat} {U_t_thrown U_t_words U_t_towns U_t_op U_t_arg U_t_codes U_t_facts U_t_pile U_t_shadeDay U_t_sun U_t_isShut U_t_sunny U_t_cost U_t_leastCost U_t_leastEnd U_t_wayOf U_t_wayMany U_t_whereAt U_t_reach U_t_likely U_t_crowdAt U_t_crowdBy U_t_crowdRounds U_t_bestSquare U_t_bestBy U_t_spotsMany U_t_spotAt U_t_followed U_t_followOf U_t_toldMany U_t_toldOf U_t_stepsTo U_t_reachOne U_t_isMarked U_t_markOf : Value} {t_tape : Nat → Int32} {post : Int32 → Int32 → Int32 → Int32 → (Nat → Int32) → (Nat → Int32) → (Nat → Int64) → Prop} (hret : ∀ (w0 : Int32) (w1 : Int32) (w2 : Int32) (w3 : Int32) (w4 : Nat → Int32) (w5 : Nat → Int32) (w6 : Nat → Int64) (pc : Nat) (lo : List (Option Value)), post w0 w1 w2 w3 w4 w5 w6 → decode cX12_cutAll pc = .ok (.return_, 1) → AW X 7 0 0 (w_X12_cutAll (cxG X) A_t A_t_tape A_t_place A_t_sort A_t_value U_t_thrown U_t_words U_t_towns U_t_op U_t_arg U_t_codes U_t_facts U_t_pile U_t_shadeDay U_t_sun U_t_isShut U_t_sunny U_t_cost U_t_leastCost U_t_leastEnd U_t_wayOf U_t_wayMany U_t_whereAt U_t_reach U_t_likely U_t_crowdAt U_t_crowdBy U_t_crowdRounds U_t_bestSquare U_t_bestBy U_t_spotsMany U_t_spotAt U_t_followed U_t_followOf U_t_toldMany U_t_toldOf U_t_stepsTo U_t_reachOne U_t_isMarked U_t_markOf w0 w1 w2 w3 t_tape w4 w5 w6) pl pc lo []) {x_279 : Int32 → Int32 → Int32 → Int32 → (Nat → Int32) → (Nat → Int32) → (Nat → Int64) → Int32 → Prop} {kb : Int32 × Int32 × Int32 × Int32 × (Nat → Int32) × (Nat → Int32) × (Nat → Int64) × Int32 × Int32 → Prop} (hkb : ∀ (t_taped : Int32) (t_size : Int32) (t_at : Int32) (t_fault : Int32) (t_place : Nat → Int32) (t_sort : Nat → Int32) (t_value : Nat → Int64) (l1 : Int32) (l2 : Int32) , kb (t_taped, t_size, t_at, t_fault, t_place, t_sort, t_value, l1, l2) → AW X 7 0 0 (w_X12_cutAll (cxG X) A_t A_t_tape A_t_place A_t_sort A_t_value U_t_thrown U_t_words U_t_towns U_t_op U_t_arg U_t_codes U_t_facts U_t_pile U_t_shadeDay U_t_sun U_t_isShut U_t_sunny U_t_cost U_t_leastCost U_t_leastEnd U_t_wayOf U_t_wayMany U_t_whereAt U_t_reach U_t_likely U_t_crowdAt U_t_crowdBy U_t_crowdRounds U_t_bestSquare U_t_bestBy U_t_spotsMany U_t_spotAt U_t_followed U_t_followOf U_t_toldMany U_t_toldOf U_t_stepsTo U_t_reachOne U_t_isMarked U_t_markOf t_taped t_size t_at t_fault t_tape t_place t_sort t_value) pl 17 [some (.ref A_t), some (.int l1), some (.int l2), none, none, none, none] []) (hx_279 : ∀ (t_taped : Int32) (t_size : Int32) (t_at : Int32) (t_fault : Int32) (t_place : Nat → Int32) (t_sort : Nat → Int32) (t_value : Nat → Int64) (l1 : Int32) , x_279 t_taped t_size t_at t_fault t_place t_sort t_value l1 → AW X 7 0 0 (w_X12_cutAll (cxG X) A_t A_t_tape A_t_place A_t_sort A_t_value U_t_thrown U_t_words U_t_towns U_t_op U_t_arg U_t_codes U_t_facts U_t_pile U_t_shadeDay U_t_sun U_t_isShut U_t_sunny U_t_cost U_t_leastCost U_t_leastEnd U_t_wayOf U_t_wayMany U_t_whereAt U_t_reach U_t_likely U_t_crowdAt U_t_crowdBy U_t_crowdRounds U_t_bestSquare U_t_bestBy U_t_spotsMany U_t_spotAt U_t_followed U_t_followOf U_t_toldMany U_t_toldOf U_t_stepsTo U_t_reachOne U_t_isMarked U_t_markOf t_taped t_size t_at t_fault t_tape t_place t_sort t_value) pl 279 [some (.ref A_t), some (.int l1), none, none, none, none, none] []) {t_taped : Int32} {t_size : Int32} {t_at : Int32} {t_fault : Int32} {t_place : Nat → Int32} {t_sort : Nat → Int32} {t_value : Nat → Int64} {l1 : Int32} {l2 : Int32} {l4 : Int32} {l5 : Int64} (hw : wp_X12_cutAll_b218  x_279 kb t_tape post t_taped t_size t_at t_fault t_place t_sort t_value l1 l2 l4 l5) : AW X 7 0 0 (w_X12_cutAll (cxG X) A_t A_t_tape A_t_place A_t_sort A_t_value U_t_thrown U_t_words U_t_towns U_t_op U_t_arg U_t_codes U_t_facts U_t_pile U_t_shadeDay U_t_sun U_t_isShut U_t_sunny U_t_cost U_t_leastCost U_t_leastEnd U_t_wayOf U_t_wayMany U_t_whereAt U_t_reach U_t_likely U_t_crowdAt U_t_crowdBy U_t_crowdRounds U_t_bestSquare U_t_bestBy U_t_spotsMany U_t_spotAt U_t_followed U_t_followOf U_t_toldMany U_t_toldOf U_t_stepsTo U_t_reachOne U_t_isMarked U_t_markOf t_taped t_size t_at t_fault t_tape t_place t_sort t_value) pl 218 [some (.ref A_t), some (.int l1), some (.int l2), none, some (.int l4), some (.long l5), none] [] := by
  refine a_aload_n (pc := 218) (i := 0) C dX12_cutAll_218 rfl rfl ?_
  refine a_get (pc := 219) C fl_X12_24 dX12_cutAll_219 0 rfl rfl ?_
  refine a_iload_n (pc := 222) (i := 1) C dX12_cutAll_222 rfl rfl ?_
  refine a_iload_n (pc := 223) (i := 2) C dX12_cutAll_223 rfl rfl ?_
  refine a_iload (pc := 224) (i := 4) C dX12_cutAll_224 rfl ?_
  refine a_isub (pc := 226) C dX12_cutAll_226 ?_
  refine a_iconst (pc := 227) C dX12_cutAll_227 kc_4 ?_
  refine a_icmp_le (pc := 228) (tgt := 235) C dX12_cutAll_228 (by decide) (fun c_228 => ?_) (fun c_228 => ?_)
  · replace hw := hw.1 c_228
    refine a_iconst (pc := 235) C dX12_cutAll_235 kc_2 ?_
    refine a_msk [true, true, true, true, false, true, true] rfl ?_
    exact m_X12_cutAll_b236 C hret (kb := kb) hkb hx_279 hw
  · replace hw := hw.2 c_228
    refine a_iconst (pc := 231) C dX12_cutAll_231 kc_4 ?_
    refine a_goto (pc := 232) (tgt := 236) C dX12_cutAll_232 (by decide) ?_
    refine a_msk [true, true, true, true, false, true, true] rfl ?_
    exact m_X12_cutAll_b236 C hret (kb := kb) hkb hx_279 hw
set_option maxRecDepth 20000 in
theorem m_X12_cutAll_L70 {X : Ctx} (C : Cok X cX12_cutAll 7 RX12 (rmL 2) Fz0) {pl : Pool} {A_t A_t_tape A_t_place A_t_sort A_t_value : Nat} {U_t_thrown U_t_words U_t_towns U_t_op U_t_arg U_t_codes U_t_facts U_t_pile U_t_shadeDay U_t_sun U_t_isShut U_t_sunny U_t_cost U_t_leastCost U_t_leastEnd U_t_wayOf U_t_wayMany U_t_whereAt U_t_reach U_t_likely U_t_crowdAt U_t_crowdBy U_t_crowdRounds U_t_bestSquare U_t_bestBy U_t_spotsMany U_t_spotAt U_t_followed U_t_followOf U_t_toldMany U_t_toldOf U_t_stepsTo U_t_reachOne U_t_isMarked U_t_markOf : Value} {t_tape : Nat → Int32} {post : Int32 → Int32 → Int32 → Int32 → (Nat → Int32) → (Nat → Int32) → (Nat → Int64) → Prop} (hret : ∀ (w0 : Int32) (w1 : Int32) (w2 : Int32) (w3 : Int32) (w4 : Nat → Int32) (w5 : Nat → Int32) (w6 : Nat → Int64) (pc : Nat) (lo : List (Option Value)), post w0 w1 w2 w3 w4 w5 w6 → decode cX12_cutAll pc = .ok (.return_, 1) → AW X 7 0 0 (w_X12_cutAll (cxG X) A_t A_t_tape A_t_place A_t_sort A_t_value U_t_thrown U_t_words U_t_towns U_t_op U_t_arg U_t_codes U_t_facts U_t_pile U_t_shadeDay U_t_sun U_t_isShut U_t_sunny U_t_cost U_t_leastCost U_t_leastEnd U_t_wayOf U_t_wayMany U_t_whereAt U_t_reach U_t_likely U_t_crowdAt U_t_crowdBy U_t_crowdRounds U_t_bestSquare U_t_bestBy U_t_spotsMany U_t_spotAt U_t_followed U_t_followOf U_t_toldMany U_t_toldOf U_t_stepsTo U_t_reachOne U_t_isMarked U_t_markOf w0 w1 w2 w3 t_tape w4 w5 w6) pl pc lo []) {x_129 : Int32 → Int32 → Int32 → Int32 → (Nat → Int32) → (Nat → Int32) → (Nat → Int64) → Int32 → Int32 → Int32 → Int64 → Prop} (hx_129 : ∀ (t_taped : Int32) (t_size : Int32) (t_at : Int32) (t_fault : Int32) (t_place : Nat → Int32) (t_sort : Nat → Int32) (t_value : Nat → Int64) (l1 : Int32) (l2 : Int32) (l4 : Int32) (l5 : Int64) , x_129 t_taped t_size t_at t_fault t_place t_sort t_value l1 l2 l4 l5 → AW X 7 0 0 (w_X12_cutAll (cxG X) A_t A_t_tape A_t_place A_t_sort A_t_value U_t_thrown U_t_words U_t_towns U_t_op U_t_arg U_t_codes U_t_facts U_t_pile U_t_shadeDay U_t_sun U_t_isShut U_t_sunny U_t_cost U_t_leastCost U_t_leastEnd U_t_wayOf U_t_wayMany U_t_whereAt U_t_reach U_t_likely U_t_crowdAt U_t_crowdBy U_t_crowdRounds U_t_bestSquare U_t_bestBy U_t_spotsMany U_t_spotAt U_t_followed U_t_followOf U_t_toldMany U_t_toldOf U_t_stepsTo U_t_reachOne U_t_isMarked U_t_markOf t_taped t_size t_at t_fault t_tape t_place t_sort t_value) pl 129 [some (.ref A_t), some (.int l1), some (.int l2), none, some (.int l4), some (.long l5), none] []) : ∀ (n70 : Nat) (t_taped : Int32) (t_size : Int32) (t_at : Int32) (t_fault : Int32) (t_place : Nat → Int32) (t_sort : Nat → Int32) (t_value : Nat → Int64) (l1 : Int32) (l2 : Int32) (l4 : Int32) (l5 : Int64) , lp (wp_X12_cutAll_L70 x_129 t_tape post) n70 (t_taped, t_size, t_at, t_fault, t_place, t_sort, t_value, l1, l2, l4, l5) → AW X 7 0 0 (w_X12_cutAll (cxG X) A_t A_t_tape A_t_place A_t_sort A_t_value U_t_thrown U_t_words U_t_towns U_t_op U_t_arg U_t_codes U_t_facts U_t_pile U_t_shadeDay U_t_sun U_t_isShut U_t_sunny U_t_cost U_t_leastCost U_t_leastEnd U_t_wayOf U_t_wayMany U_t_whereAt U_t_reach U_t_likely U_t_crowdAt U_t_crowdBy U_t_crowdRounds U_t_bestSquare U_t_bestBy U_t_spotsMany U_t_spotAt U_t_followed U_t_followOf U_t_toldMany U_t_toldOf U_t_stepsTo U_t_reachOne U_t_isMarked U_t_markOf t_taped t_size t_at t_fault t_tape t_place t_sort t_value) pl 70 [some (.ref A_t), some (.int l1), some (.int l2), none, some (.int l4), some (.long l5), none] [] := by
  intro n70
  induction n70 with
  | zero => exact fun _ _ _ _ _ _ _ _ _ _ _ hw => hw.elim
  | succ n70 hkb =>
    intro t_taped t_size t_at t_fault t_place t_sort t_value l1 l2 l4 l5 hw
    replace hw : wp_X12_cutAll_L70 x_129 t_tape post (lp (wp_X12_cutAll_L70 x_129 t_tape post) n70) (t_taped, t_size, t_at, t_fault, t_place, t_sort, t_value, l1, l2, l4, l5) := hw
    generalize lp (wp_X12_cutAll_L70 x_129 t_tape post) n70 = kb at hw hkb
    refine a_iload_n (pc := 70) (i := 2) C dX12_cutAll_70 rfl rfl ?_
    refine a_aload_n (pc := 71) (i := 0) C dX12_cutAll_71 rfl rfl ?_
    refine a_get (pc := 72) C fl_X12_177 dX12_cutAll_72 0 rfl rfl ?_
    refine a_icmp_ge (pc := 75) (tgt := 129) C dX12_cutAll_75 (by decide) (fun c_75 => ?_) (fun c_75 => ?_)
    · replace hw := hw.1 c_75
      exact hx_129 _ _ _ _ _ _ _ _ _ _ _ hw
    · replace hw := hw.2 c_75
      refine a_aload_n (pc := 78) (i := 0) C dX12_cutAll_78 rfl rfl ?_
      refine a_get (pc := 79) C fl_X12_14 dX12_cutAll_79 0 rfl rfl ?_
      refine a_iload_n (pc := 82) (i := 2) C dX12_cutAll_82 rfl rfl ?_
      obtain ⟨i_83, hw⟩ := hw
      refine a_iald (pc := 83) C dX12_cutAll_83 1 rfl i_83 ?_
      refine a_callSi (pc := 84) (As := [.int (t_tape (Int32.toNatClampNeg l2))]) (st := []) (ws' := (fun _ => (w_X12_cutAll (cxG X) A_t A_t_tape A_t_place A_t_sort A_t_value U_t_thrown U_t_words U_t_towns U_t_op U_t_arg U_t_codes U_t_facts U_t_pile U_t_shadeDay U_t_sun U_t_isShut U_t_sunny U_t_cost U_t_leastCost U_t_leastEnd U_t_wayOf U_t_wayMany U_t_whereAt U_t_reach U_t_likely U_t_crowdAt U_t_crowdBy U_t_crowdRounds U_t_bestSquare U_t_bestBy U_t_spotsMany U_t_spotAt U_t_followed U_t_followOf U_t_toldMany U_t_toldOf U_t_stepsTo U_t_reachOne U_t_isMarked U_t_markOf t_taped t_size t_at t_fault t_tape t_place t_sort t_value))) C (c_X12_isLetter hw) dX12_cutAll_84 mth_X12_isLetter tml_X12_173 (fun _ _ h => trivial) Fz0_ok (rml (by decide) (by decide)) (Nat.le_of_ble_eq_true rfl) rfl rfl [] [0, 1, 2, 3, 4] [0, 1, 2, 3, 4] rfl rfl rfl rfl rfl rfl (fun _ => rfl) rfl (fun _ => rfl) (fun r84 u hw => ?_)
      obtain ⟨z_84, hw⟩ := hw
      show AW X 7 0 0 (w_X12_cutAll (cxG X) A_t A_t_tape A_t_place A_t_sort A_t_value U_t_thrown U_t_words U_t_towns U_t_op U_t_arg U_t_codes U_t_facts U_t_pile U_t_shadeDay U_t_sun U_t_isShut U_t_sunny U_t_cost U_t_leastCost U_t_leastEnd U_t_wayOf U_t_wayMany U_t_whereAt U_t_reach U_t_likely U_t_crowdAt U_t_crowdBy U_t_crowdRounds U_t_bestSquare U_t_bestBy U_t_spotsMany U_t_spotAt U_t_followed U_t_followOf U_t_toldMany U_t_toldOf U_t_stepsTo U_t_reachOne U_t_isMarked U_t_markOf t_taped t_size t_at t_fault t_tape t_place t_sort t_value) pl 87 [some (.ref A_t), some (.int l1), some (.int l2), none, some (.int l4), some (.long l5), none] [.int r84]
      refine a_if_eq (pc := 87) (tgt := 129) C dX12_cutAll_87 (by decide) (fun c_87 => ?_) (fun c_87 => ?_)
      · replace hw := hw.1 c_87
        exact hx_129 _ _ _ _ _ _ _ _ _ _ _ hw
      · replace hw := hw.2 c_87
        refine a_iload_n (pc := 90) (i := 2) C dX12_cutAll_90 rfl rfl ?_
        refine a_iload (pc := 91) (i := 4) C dX12_cutAll_91 rfl ?_
        refine a_isub (pc := 93) C dX12_cutAll_93 ?_
        refine a_bipush (pc := 94) C dX12_cutAll_94 kb_9 ?_
        refine a_icmp_ge (pc := 96) (tgt := 119) C dX12_cutAll_96 (by decide) (fun c_96 => ?_) (fun c_96 => ?_)
        · replace hw := hw.1 c_96
          refine a_lload (pc := 119) (i := 5) C dX12_cutAll_119 rfl ?_
          refine s_lstore (pc := 121) (i := 5) (lo' := [some (.ref A_t), some (.int l1), some (.int l2), none, some (.int l4), some (.long l5), none]) C dX12_cutAll_121 (by decide) rfl rfl ?_
          refine a_inc (pc := 123) (i := 2) C (fun y => [some (.ref A_t), some (.int l1), some (.int y), none, some (.int l4), some (.long l5), none]) dX12_cutAll_123 rfl kc_1 (by decide) rfl (fun _ => rfl) (fun y123 e_y123 => ?_)
          replace hw := hw y123 e_y123
          refine a_goto (pc := 126) (tgt := 70) C dX12_cutAll_126 (by decide) ?_
          exact hkb _ _ _ _ _ _ _ _ _ _ _ hw
        · replace hw := hw.2 c_96
          refine a_ldc2 (pc := 99) C dX12_cutAll_99 tk_X12_180 ?_
          refine a_lload (pc := 102) (i := 5) C dX12_cutAll_102 rfl ?_
          refine a_lmul (pc := 104) C dX12_cutAll_104 ?_
          refine a_aload_n (pc := 105) (i := 0) C dX12_cutAll_105 rfl rfl ?_
          refine a_get (pc := 106) C fl_X12_14 dX12_cutAll_106 0 rfl rfl ?_
          refine a_iload_n (pc := 109) (i := 2) C dX12_cutAll_109 rfl rfl ?_
          obtain ⟨i_110, hw⟩ := hw
          refine a_iald (pc := 110) C dX12_cutAll_110 1 rfl i_110 ?_
          refine a_callSi (pc := 111) (As := [.int (t_tape (Int32.toNatClampNeg l2))]) (st := [.long (37 * l5)]) (ws' := (fun _ => (w_X12_cutAll (cxG X) A_t A_t_tape A_t_place A_t_sort A_t_value U_t_thrown U_t_words U_t_towns U_t_op U_t_arg U_t_codes U_t_facts U_t_pile U_t_shadeDay U_t_sun U_t_isShut U_t_sunny U_t_cost U_t_leastCost U_t_leastEnd U_t_wayOf U_t_wayMany U_t_whereAt U_t_reach U_t_likely U_t_crowdAt U_t_crowdBy U_t_crowdRounds U_t_bestSquare U_t_bestBy U_t_spotsMany U_t_spotAt U_t_followed U_t_followOf U_t_toldMany U_t_toldOf U_t_stepsTo U_t_reachOne U_t_isMarked U_t_markOf t_taped t_size t_at t_fault t_tape t_place t_sort t_value))) C (c_X12_rank hw) dX12_cutAll_111 mth_X12_rank tml_X12_182 (fun _ _ h => trivial) Fz0_ok (rml (by decide) (by decide)) (Nat.le_of_ble_eq_true rfl) rfl rfl [] [0, 1, 2, 3, 4] [0, 1, 2, 3, 4] rfl rfl rfl rfl rfl rfl (fun _ => rfl) rfl (fun _ => rfl) (fun r111 u hw => ?_)
          show AW X 7 0 0 (w_X12_cutAll (cxG X) A_t A_t_tape A_t_place A_t_sort A_t_value U_t_thrown U_t_words U_t_towns U_t_op U_t_arg U_t_codes U_t_facts U_t_pile U_t_shadeDay U_t_sun U_t_isShut U_t_sunny U_t_cost U_t_leastCost U_t_leastEnd U_t_wayOf U_t_wayMany U_t_whereAt U_t_reach U_t_likely U_t_crowdAt U_t_crowdBy U_t_crowdRounds U_t_bestSquare U_t_bestBy U_t_spotsMany U_t_spotAt U_t_followed U_t_followOf U_t_toldMany U_t_toldOf U_t_stepsTo U_t_reachOne U_t_isMarked U_t_markOf t_taped t_size t_at t_fault t_tape t_place t_sort t_value) pl 114 [some (.ref A_t), some (.int l1), some (.int l2), none, some (.int l4), some (.long l5), none] [.int r111, .long (37 * l5)]
          refine a_i2l (pc := 114) C dX12_cutAll_114 ?_
          refine a_ladd (pc := 115) C dX12_cutAll_115 ?_
          refine a_goto (pc := 116) (tgt := 121) C dX12_cutAll_116 (by decide) ?_
          refine a_topl (fun x121 e_x121 => ?_)
          replace hw := hw x121 e_x121
          refine s_lstore (pc := 121) (i := 5) (lo' := [some (.ref A_t), some (.int l1), some (.int l2), none, some (.int l4), some (.long x121), none]) C dX12_cutAll_121 (by decide) rfl rfl ?_
          refine a_inc (pc := 123) (i := 2) C (fun y => [some (.ref A_t), some (.int l1), some (.int y), none, some (.int l4), some (.long x121), none]) dX12_cutAll_123 rfl kc_1 (by decide) rfl (fun _ => rfl) (fun y123 e_y123 => ?_)
          replace hw := hw y123 e_y123
          refine a_goto (pc := 126) (tgt := 70) C dX12_cutAll_126 (by decide) ?_
          exact hkb _ _ _ _ _ _ _ _ _ _ _ hw
set_option maxRecDepth 20000 in
theorem m_X12_cutAll_b148 {X : Ctx} (C : Cok X cX12_cutAll 7 RX12 (rmL 2) Fz0) {pl : Pool} {A_t A_t_tape A_t_place A_t_sort A_t_value : Nat} {U_t_thrown U_t_words U_t_towns U_t_op U_t_arg U_t_codes U_t_facts U_t_pile U_t_shadeDay U_t_sun U_t_isShut U_t_sunny U_t_cost U_t_leastCost U_t_leastEnd U_t_wayOf U_t_wayMany U_t_whereAt U_t_reach U_t_likely U_t_crowdAt U_t_crowdBy U_t_crowdRounds U_t_bestSquare U_t_bestBy U_t_spotsMany U_t_spotAt U_t_followed U_t_followOf U_t_toldMany U_t_toldOf U_t_stepsTo U_t_reachOne U_t_isMarked U_t_markOf : Value} {t_tape : Nat → Int32} {post : Int32 → Int32 → Int32 → Int32 → (Nat → Int32) → (Nat → Int32) → (Nat → Int64) → Prop} (hret : ∀ (w0 : Int32) (w1 : Int32) (w2 : Int32) (w3 : Int32) (w4 : Nat → Int32) (w5 : Nat → Int32) (w6 : Nat → Int64) (pc : Nat) (lo : List (Option Value)), post w0 w1 w2 w3 w4 w5 w6 → decode cX12_cutAll pc = .ok (.return_, 1) → AW X 7 0 0 (w_X12_cutAll (cxG X) A_t A_t_tape A_t_place A_t_sort A_t_value U_t_thrown U_t_words U_t_towns U_t_op U_t_arg U_t_codes U_t_facts U_t_pile U_t_shadeDay U_t_sun U_t_isShut U_t_sunny U_t_cost U_t_leastCost U_t_leastEnd U_t_wayOf U_t_wayMany U_t_whereAt U_t_reach U_t_likely U_t_crowdAt U_t_crowdBy U_t_crowdRounds U_t_bestSquare U_t_bestBy U_t_spotsMany U_t_spotAt U_t_followed U_t_followOf U_t_toldMany U_t_toldOf U_t_stepsTo U_t_reachOne U_t_isMarked U_t_markOf w0 w1 w2 w3 t_tape w4 w5 w6) pl pc lo []) {x_279 : Int32 → Int32 → Int32 → Int32 → (Nat → Int32) → (Nat → Int32) → (Nat → Int64) → Int32 → Prop} {kb : Int32 × Int32 × Int32 × Int32 × (Nat → Int32) × (Nat → Int32) × (Nat → Int64) × Int32 × Int32 → Prop} (hkb : ∀ (t_taped : Int32) (t_size : Int32) (t_at : Int32) (t_fault : Int32) (t_place : Nat → Int32) (t_sort : Nat → Int32) (t_value : Nat → Int64) (l1 : Int32) (l2 : Int32) , kb (t_taped, t_size, t_at, t_fault, t_place, t_sort, t_value, l1, l2) → AW X 7 0 0 (w_X12_cutAll (cxG X) A_t A_t_tape A_t_place A_t_sort A_t_value U_t_thrown U_t_words U_t_towns U_t_op U_t_arg U_t_codes U_t_facts U_t_pile U_t_shadeDay U_t_sun U_t_isShut U_t_sunny U_t_cost U_t_leastCost U_t_leastEnd U_t_wayOf U_t_wayMany U_t_whereAt U_t_reach U_t_likely U_t_crowdAt U_t_crowdBy U_t_crowdRounds U_t_bestSquare U_t_bestBy U_t_spotsMany U_t_spotAt U_t_followed U_t_followOf U_t_toldMany U_t_toldOf U_t_stepsTo U_t_reachOne U_t_isMarked U_t_markOf t_taped t_size t_at t_fault t_tape t_place t_sort t_value) pl 17 [some (.ref A_t), some (.int l1), some (.int l2), none, none, none, none] []) (hx_279 : ∀ (t_taped : Int32) (t_size : Int32) (t_at : Int32) (t_fault : Int32) (t_place : Nat → Int32) (t_sort : Nat → Int32) (t_value : Nat → Int64) (l1 : Int32) , x_279 t_taped t_size t_at t_fault t_place t_sort t_value l1 → AW X 7 0 0 (w_X12_cutAll (cxG X) A_t A_t_tape A_t_place A_t_sort A_t_value U_t_thrown U_t_words U_t_towns U_t_op U_t_arg U_t_codes U_t_facts U_t_pile U_t_shadeDay U_t_sun U_t_isShut U_t_sunny U_t_cost U_t_leastCost U_t_leastEnd U_t_wayOf U_t_wayMany U_t_whereAt U_t_reach U_t_likely U_t_crowdAt U_t_crowdBy U_t_crowdRounds U_t_bestSquare U_t_bestBy U_t_spotsMany U_t_spotAt U_t_followed U_t_followOf U_t_toldMany U_t_toldOf U_t_stepsTo U_t_reachOne U_t_isMarked U_t_markOf t_taped t_size t_at t_fault t_tape t_place t_sort t_value) pl 279 [some (.ref A_t), some (.int l1), none, none, none, none, none] []) {t_taped : Int32} {t_size : Int32} {t_at : Int32} {t_fault : Int32} {t_place : Nat → Int32} {t_sort : Nat → Int32} {t_value : Nat → Int64} {l1 : Int32} {l2 : Int32} {l5 : Int64} {s0 : Int32} {s1 : Int32} (hw : wp_X12_cutAll_b148  x_279 kb t_tape post t_taped t_size t_at t_fault t_place t_sort t_value l1 l2 l5 s0 s1) : AW X 7 0 0 (w_X12_cutAll (cxG X) A_t A_t_tape A_t_place A_t_sort A_t_value U_t_thrown U_t_words U_t_towns U_t_op U_t_arg U_t_codes U_t_facts U_t_pile U_t_shadeDay U_t_sun U_t_isShut U_t_sunny U_t_cost U_t_leastCost U_t_leastEnd U_t_wayOf U_t_wayMany U_t_whereAt U_t_reach U_t_likely U_t_crowdAt U_t_crowdBy U_t_crowdRounds U_t_bestSquare U_t_bestBy U_t_spotsMany U_t_spotAt U_t_followed U_t_followOf U_t_toldMany U_t_toldOf U_t_stepsTo U_t_reachOne U_t_isMarked U_t_markOf t_taped t_size t_at t_fault t_tape t_place t_sort t_value) pl 148 [some (.ref A_t), some (.int l1), some (.int l2), none, none, some (.long l5), none] [.int s0, .int s1, .ref A_t_sort] := by
  obtain ⟨i_148, hw⟩ := hw
  refine a_iastW (pc := 148) C (fun h => (w_X12_cutAll (cxG X) A_t A_t_tape A_t_place A_t_sort A_t_value U_t_thrown U_t_words U_t_towns U_t_op U_t_arg U_t_codes U_t_facts U_t_pile U_t_shadeDay U_t_sun U_t_isShut U_t_sunny U_t_cost U_t_leastCost U_t_leastEnd U_t_wayOf U_t_wayMany U_t_whereAt U_t_reach U_t_likely U_t_crowdAt U_t_crowdBy U_t_crowdRounds U_t_bestSquare U_t_bestBy U_t_spotsMany U_t_spotAt U_t_followed U_t_followOf U_t_toldMany U_t_toldOf U_t_stepsTo U_t_reachOne U_t_isMarked U_t_markOf t_taped t_size t_at t_fault t_tape t_place h t_value)) dX12_cutAll_148 3 rfl i_148 (fun _ => rfl) (fun t_sort_148 e_t_sort_148 => ?_)
  replace hw := hw t_sort_148 e_t_sort_148
  refine a_goto (pc := 149) (tgt := 265) C dX12_cutAll_149 (by decide) ?_
  exact m_X12_cutAll_b265 C hret (kb := kb) hkb hx_279 hw
set_option maxRecDepth 20000 in
theorem m_X12_cutAll_b129 {X : Ctx} (C : Cok X cX12_cutAll 7 RX12 (rmL 2) Fz0) {pl : Pool} {A_t A_t_tape A_t_place A_t_sort A_t_value : Nat} {U_t_thrown U_t_words U_t_towns U_t_op U_t_arg U_t_codes U_t_facts U_t_pile U_t_shadeDay U_t_sun U_t_isShut U_t_sunny U_t_cost U_t_leastCost U_t_leastEnd U_t_wayOf U_t_wayMany U_t_whereAt U_t_reach U_t_likely U_t_crowdAt U_t_crowdBy U_t_crowdRounds U_t_bestSquare U_t_bestBy U_t_spotsMany U_t_spotAt U_t_followed U_t_followOf U_t_toldMany U_t_toldOf U_t_stepsTo U_t_reachOne U_t_isMarked U_t_markOf : Value} {t_tape : Nat → Int32} {post : Int32 → Int32 → Int32 → Int32 → (Nat → Int32) → (Nat → Int32) → (Nat → Int64) → Prop} (hret : ∀ (w0 : Int32) (w1 : Int32) (w2 : Int32) (w3 : Int32) (w4 : Nat → Int32) (w5 : Nat → Int32) (w6 : Nat → Int64) (pc : Nat) (lo : List (Option Value)), post w0 w1 w2 w3 w4 w5 w6 → decode cX12_cutAll pc = .ok (.return_, 1) → AW X 7 0 0 (w_X12_cutAll (cxG X) A_t A_t_tape A_t_place A_t_sort A_t_value U_t_thrown U_t_words U_t_towns U_t_op U_t_arg U_t_codes U_t_facts U_t_pile U_t_shadeDay U_t_sun U_t_isShut U_t_sunny U_t_cost U_t_leastCost U_t_leastEnd U_t_wayOf U_t_wayMany U_t_whereAt U_t_reach U_t_likely U_t_crowdAt U_t_crowdBy U_t_crowdRounds U_t_bestSquare U_t_bestBy U_t_spotsMany U_t_spotAt U_t_followed U_t_followOf U_t_toldMany U_t_toldOf U_t_stepsTo U_t_reachOne U_t_isMarked U_t_markOf w0 w1 w2 w3 t_tape w4 w5 w6) pl pc lo []) {x_279 : Int32 → Int32 → Int32 → Int32 → (Nat → Int32) → (Nat → Int32) → (Nat → Int64) → Int32 → Prop} {kb : Int32 × Int32 × Int32 × Int32 × (Nat → Int32) × (Nat → Int32) × (Nat → Int64) × Int32 × Int32 → Prop} (hkb : ∀ (t_taped : Int32) (t_size : Int32) (t_at : Int32) (t_fault : Int32) (t_place : Nat → Int32) (t_sort : Nat → Int32) (t_value : Nat → Int64) (l1 : Int32) (l2 : Int32) , kb (t_taped, t_size, t_at, t_fault, t_place, t_sort, t_value, l1, l2) → AW X 7 0 0 (w_X12_cutAll (cxG X) A_t A_t_tape A_t_place A_t_sort A_t_value U_t_thrown U_t_words U_t_towns U_t_op U_t_arg U_t_codes U_t_facts U_t_pile U_t_shadeDay U_t_sun U_t_isShut U_t_sunny U_t_cost U_t_leastCost U_t_leastEnd U_t_wayOf U_t_wayMany U_t_whereAt U_t_reach U_t_likely U_t_crowdAt U_t_crowdBy U_t_crowdRounds U_t_bestSquare U_t_bestBy U_t_spotsMany U_t_spotAt U_t_followed U_t_followOf U_t_toldMany U_t_toldOf U_t_stepsTo U_t_reachOne U_t_isMarked U_t_markOf t_taped t_size t_at t_fault t_tape t_place t_sort t_value) pl 17 [some (.ref A_t), some (.int l1), some (.int l2), none, none, none, none] []) (hx_279 : ∀ (t_taped : Int32) (t_size : Int32) (t_at : Int32) (t_fault : Int32) (t_place : Nat → Int32) (t_sort : Nat → Int32) (t_value : Nat → Int64) (l1 : Int32) , x_279 t_taped t_size t_at t_fault t_place t_sort t_value l1 → AW X 7 0 0 (w_X12_cutAll (cxG X) A_t A_t_tape A_t_place A_t_sort A_t_value U_t_thrown U_t_words U_t_towns U_t_op U_t_arg U_t_codes U_t_facts U_t_pile U_t_shadeDay U_t_sun U_t_isShut U_t_sunny U_t_cost U_t_leastCost U_t_leastEnd U_t_wayOf U_t_wayMany U_t_whereAt U_t_reach U_t_likely U_t_crowdAt U_t_crowdBy U_t_crowdRounds U_t_bestSquare U_t_bestBy U_t_spotsMany U_t_spotAt U_t_followed U_t_followOf U_t_toldMany U_t_toldOf U_t_stepsTo U_t_reachOne U_t_isMarked U_t_markOf t_taped t_size t_at t_fault t_tape t_place t_sort t_value) pl 279 [some (.ref A_t), some (.int l1), none, none, none, none, none] []) {t_taped : Int32} {t_size : Int32} {t_at : Int32} {t_fault : Int32} {t_place : Nat → Int32} {t_sort : Nat → Int32} {t_value : Nat → Int64} {l1 : Int32} {l2 : Int32} {l4 : Int32} {l5 : Int64} (hw : wp_X12_cutAll_b129  x_279 kb t_tape post t_taped t_size t_at t_fault t_place t_sort t_value l1 l2 l4 l5) : AW X 7 0 0 (w_X12_cutAll (cxG X) A_t A_t_tape A_t_place A_t_sort A_t_value U_t_thrown U_t_words U_t_towns U_t_op U_t_arg U_t_codes U_t_facts U_t_pile U_t_shadeDay U_t_sun U_t_isShut U_t_sunny U_t_cost U_t_leastCost U_t_leastEnd U_t_wayOf U_t_wayMany U_t_whereAt U_t_reach U_t_likely U_t_crowdAt U_t_crowdBy U_t_crowdRounds U_t_bestSquare U_t_bestBy U_t_spotsMany U_t_spotAt U_t_followed U_t_followOf U_t_toldMany U_t_toldOf U_t_stepsTo U_t_reachOne U_t_isMarked U_t_markOf t_taped t_size t_at t_fault t_tape t_place t_sort t_value) pl 129 [some (.ref A_t), some (.int l1), some (.int l2), none, some (.int l4), some (.long l5), none] [] := by
  refine a_aload_n (pc := 129) (i := 0) C dX12_cutAll_129 rfl rfl ?_
  refine a_get (pc := 130) C fl_X12_24 dX12_cutAll_130 0 rfl rfl ?_
  refine a_iload_n (pc := 133) (i := 1) C dX12_cutAll_133 rfl rfl ?_
  refine a_iload_n (pc := 134) (i := 2) C dX12_cutAll_134 rfl rfl ?_
  refine a_iload (pc := 135) (i := 4) C dX12_cutAll_135 rfl ?_
  refine a_isub (pc := 137) C dX12_cutAll_137 ?_
  refine a_bipush (pc := 138) C dX12_cutAll_138 kb_9 ?_
  refine a_icmp_le (pc := 140) (tgt := 147) C dX12_cutAll_140 (by decide) (fun c_140 => ?_) (fun c_140 => ?_)
  · replace hw := hw.1 c_140
    refine a_iconst (pc := 147) C dX12_cutAll_147 kc_1 ?_
    refine a_msk [true, true, true, true, false, true, true] rfl ?_
    exact m_X12_cutAll_b148 C hret (kb := kb) hkb hx_279 hw
  · replace hw := hw.2 c_140
    refine a_iconst (pc := 143) C dX12_cutAll_143 kc_4 ?_
    refine a_goto (pc := 144) (tgt := 148) C dX12_cutAll_144 (by decide) ?_
    refine a_msk [true, true, true, true, false, true, true] rfl ?_
    exact m_X12_cutAll_b148 C hret (kb := kb) hkb hx_279 hw
set_option maxRecDepth 20000 in
theorem m_X12_cutAll_L17 {X : Ctx} (C : Cok X cX12_cutAll 7 RX12 (rmL 2) Fz0) {pl : Pool} {A_t A_t_tape A_t_place A_t_sort A_t_value : Nat} {U_t_thrown U_t_words U_t_towns U_t_op U_t_arg U_t_codes U_t_facts U_t_pile U_t_shadeDay U_t_sun U_t_isShut U_t_sunny U_t_cost U_t_leastCost U_t_leastEnd U_t_wayOf U_t_wayMany U_t_whereAt U_t_reach U_t_likely U_t_crowdAt U_t_crowdBy U_t_crowdRounds U_t_bestSquare U_t_bestBy U_t_spotsMany U_t_spotAt U_t_followed U_t_followOf U_t_toldMany U_t_toldOf U_t_stepsTo U_t_reachOne U_t_isMarked U_t_markOf : Value} {t_tape : Nat → Int32} {post : Int32 → Int32 → Int32 → Int32 → (Nat → Int32) → (Nat → Int32) → (Nat → Int64) → Prop} (hret : ∀ (w0 : Int32) (w1 : Int32) (w2 : Int32) (w3 : Int32) (w4 : Nat → Int32) (w5 : Nat → Int32) (w6 : Nat → Int64) (pc : Nat) (lo : List (Option Value)), post w0 w1 w2 w3 w4 w5 w6 → decode cX12_cutAll pc = .ok (.return_, 1) → AW X 7 0 0 (w_X12_cutAll (cxG X) A_t A_t_tape A_t_place A_t_sort A_t_value U_t_thrown U_t_words U_t_towns U_t_op U_t_arg U_t_codes U_t_facts U_t_pile U_t_shadeDay U_t_sun U_t_isShut U_t_sunny U_t_cost U_t_leastCost U_t_leastEnd U_t_wayOf U_t_wayMany U_t_whereAt U_t_reach U_t_likely U_t_crowdAt U_t_crowdBy U_t_crowdRounds U_t_bestSquare U_t_bestBy U_t_spotsMany U_t_spotAt U_t_followed U_t_followOf U_t_toldMany U_t_toldOf U_t_stepsTo U_t_reachOne U_t_isMarked U_t_markOf w0 w1 w2 w3 t_tape w4 w5 w6) pl pc lo []) {x_279 : Int32 → Int32 → Int32 → Int32 → (Nat → Int32) → (Nat → Int32) → (Nat → Int64) → Int32 → Prop} (hx_279 : ∀ (t_taped : Int32) (t_size : Int32) (t_at : Int32) (t_fault : Int32) (t_place : Nat → Int32) (t_sort : Nat → Int32) (t_value : Nat → Int64) (l1 : Int32) , x_279 t_taped t_size t_at t_fault t_place t_sort t_value l1 → AW X 7 0 0 (w_X12_cutAll (cxG X) A_t A_t_tape A_t_place A_t_sort A_t_value U_t_thrown U_t_words U_t_towns U_t_op U_t_arg U_t_codes U_t_facts U_t_pile U_t_shadeDay U_t_sun U_t_isShut U_t_sunny U_t_cost U_t_leastCost U_t_leastEnd U_t_wayOf U_t_wayMany U_t_whereAt U_t_reach U_t_likely U_t_crowdAt U_t_crowdBy U_t_crowdRounds U_t_bestSquare U_t_bestBy U_t_spotsMany U_t_spotAt U_t_followed U_t_followOf U_t_toldMany U_t_toldOf U_t_stepsTo U_t_reachOne U_t_isMarked U_t_markOf t_taped t_size t_at t_fault t_tape t_place t_sort t_value) pl 279 [some (.ref A_t), some (.int l1), none, none, none, none, none] []) : ∀ (n17 : Nat) (t_taped : Int32) (t_size : Int32) (t_at : Int32) (t_fault : Int32) (t_place : Nat → Int32) (t_sort : Nat → Int32) (t_value : Nat → Int64) (l1 : Int32) (l2 : Int32) , lp (wp_X12_cutAll_L17 x_279 t_tape post) n17 (t_taped, t_size, t_at, t_fault, t_place, t_sort, t_value, l1, l2) → AW X 7 0 0 (w_X12_cutAll (cxG X) A_t A_t_tape A_t_place A_t_sort A_t_value U_t_thrown U_t_words U_t_towns U_t_op U_t_arg U_t_codes U_t_facts U_t_pile U_t_shadeDay U_t_sun U_t_isShut U_t_sunny U_t_cost U_t_leastCost U_t_leastEnd U_t_wayOf U_t_wayMany U_t_whereAt U_t_reach U_t_likely U_t_crowdAt U_t_crowdBy U_t_crowdRounds U_t_bestSquare U_t_bestBy U_t_spotsMany U_t_spotAt U_t_followed U_t_followOf U_t_toldMany U_t_toldOf U_t_stepsTo U_t_reachOne U_t_isMarked U_t_markOf t_taped t_size t_at t_fault t_tape t_place t_sort t_value) pl 17 [some (.ref A_t), some (.int l1), some (.int l2), none, none, none, none] [] := by
  intro n17
  induction n17 with
  | zero => exact fun _ _ _ _ _ _ _ _ _ hw => hw.elim
  | succ n17 hkb =>
    intro t_taped t_size t_at t_fault t_place t_sort t_value l1 l2 hw
    replace hw : wp_X12_cutAll_L17 x_279 t_tape post (lp (wp_X12_cutAll_L17 x_279 t_tape post) n17) (t_taped, t_size, t_at, t_fault, t_place, t_sort, t_value, l1, l2) := hw
    generalize lp (wp_X12_cutAll_L17 x_279 t_tape post) n17 = kb at hw hkb
    refine a_iload_n (pc := 17) (i := 2) C dX12_cutAll_17 rfl rfl ?_
    refine a_aload_n (pc := 18) (i := 0) C dX12_cutAll_18 rfl rfl ?_
    refine a_get (pc := 19) C fl_X12_177 dX12_cutAll_19 0 rfl rfl ?_
    refine a_icmp_ge (pc := 22) (tgt := 279) C dX12_cutAll_22 (by decide) (fun c_22 => ?_) (fun c_22 => ?_)
    · replace hw := hw.1 c_22
      refine a_msk [true, true, false, true, true, true, true] rfl ?_
      exact hx_279 _ _ _ _ _ _ _ _ hw
    · replace hw := hw.2 c_22
      refine a_aload_n (pc := 25) (i := 0) C dX12_cutAll_25 rfl rfl ?_
      refine a_get (pc := 26) C fl_X12_14 dX12_cutAll_26 0 rfl rfl ?_
      refine a_iload_n (pc := 29) (i := 2) C dX12_cutAll_29 rfl rfl ?_
      obtain ⟨i_30, hw⟩ := hw
      refine a_iald (pc := 30) C dX12_cutAll_30 1 rfl i_30 ?_
      refine a_topi (fun x31 e_x31 => ?_)
      replace hw := hw x31 e_x31
      refine s_istore_n (pc := 31) (i := 3) (lo' := [some (.ref A_t), some (.int l1), some (.int l2), some (.int x31), none, none, none]) C dX12_cutAll_31 rfl (by decide) rfl rfl ?_
      refine a_iload_n (pc := 32) (i := 3) C dX12_cutAll_32 rfl rfl ?_
      refine a_bipush (pc := 33) C dX12_cutAll_33 kb_10 ?_
      refine a_icmp_eq (pc := 35) (tgt := 44) C dX12_cutAll_35 (by decide) (fun c_35 => ?_) (fun c_35 => ?_)
      · replace hw := hw.1 c_35
        refine a_inc (pc := 44) (i := 2) C (fun y => [some (.ref A_t), some (.int l1), some (.int y), some (.int x31), none, none, none]) dX12_cutAll_44 rfl kc_1 (by decide) rfl (fun _ => rfl) (fun y44 e_y44 => ?_)
        replace hw := hw y44 e_y44
        refine a_goto (pc := 47) (tgt := 17) C dX12_cutAll_47 (by decide) ?_
        refine a_msk [true, true, true, false, true, true, true] rfl ?_
        exact hkb _ _ _ _ _ _ _ _ _ hw
      · replace hw := hw.2 c_35
        refine a_iload_n (pc := 38) (i := 3) C dX12_cutAll_38 rfl rfl ?_
        refine a_bipush (pc := 39) C dX12_cutAll_39 kb_32 ?_
        refine a_icmp_ne (pc := 41) (tgt := 50) C dX12_cutAll_41 (by decide) (fun c_41 => ?_) (fun c_41 => ?_)
        · replace hw := hw.1 c_41
          refine a_iload_n (pc := 50) (i := 2) C dX12_cutAll_50 rfl rfl ?_
          refine s_istore (pc := 51) (i := 4) (lo' := [some (.ref A_t), some (.int l1), some (.int l2), some (.int x31), some (.int l2), none, none]) C dX12_cutAll_51 (by decide) rfl rfl ?_
          refine a_lconst (pc := 53) (v := 0) C dX12_cutAll_53 rfl ?_
          refine s_lstore (pc := 54) (i := 5) (lo' := [some (.ref A_t), some (.int l1), some (.int l2), some (.int x31), some (.int l2), some (.long 0), none]) C dX12_cutAll_54 (by decide) rfl rfl ?_
          refine a_aload_n (pc := 56) (i := 0) C dX12_cutAll_56 rfl rfl ?_
          refine a_get (pc := 57) C fl_X12_27 dX12_cutAll_57 0 rfl rfl ?_
          refine a_iload_n (pc := 60) (i := 1) C dX12_cutAll_60 rfl rfl ?_
          refine a_iload_n (pc := 61) (i := 2) C dX12_cutAll_61 rfl rfl ?_
          obtain ⟨i_62, hw⟩ := hw
          refine a_iastW (pc := 62) C (fun h => (w_X12_cutAll (cxG X) A_t A_t_tape A_t_place A_t_sort A_t_value U_t_thrown U_t_words U_t_towns U_t_op U_t_arg U_t_codes U_t_facts U_t_pile U_t_shadeDay U_t_sun U_t_isShut U_t_sunny U_t_cost U_t_leastCost U_t_leastEnd U_t_wayOf U_t_wayMany U_t_whereAt U_t_reach U_t_likely U_t_crowdAt U_t_crowdBy U_t_crowdRounds U_t_bestSquare U_t_bestBy U_t_spotsMany U_t_spotAt U_t_followed U_t_followOf U_t_toldMany U_t_toldOf U_t_stepsTo U_t_reachOne U_t_isMarked U_t_markOf t_taped t_size t_at t_fault t_tape h t_sort t_value)) dX12_cutAll_62 2 rfl i_62 (fun _ => rfl) (fun t_place_62 e_t_place_62 => ?_)
          replace hw := hw t_place_62 e_t_place_62
          refine a_iload_n (pc := 63) (i := 3) C dX12_cutAll_63 rfl rfl ?_
          refine a_callSi (pc := 64) (As := [.int x31]) (st := []) (ws' := (fun _ => (w_X12_cutAll (cxG X) A_t A_t_tape A_t_place A_t_sort A_t_value U_t_thrown U_t_words U_t_towns U_t_op U_t_arg U_t_codes U_t_facts U_t_pile U_t_shadeDay U_t_sun U_t_isShut U_t_sunny U_t_cost U_t_leastCost U_t_leastEnd U_t_wayOf U_t_wayMany U_t_whereAt U_t_reach U_t_likely U_t_crowdAt U_t_crowdBy U_t_crowdRounds U_t_bestSquare U_t_bestBy U_t_spotsMany U_t_spotAt U_t_followed U_t_followOf U_t_toldMany U_t_toldOf U_t_stepsTo U_t_reachOne U_t_isMarked U_t_markOf t_taped t_size t_at t_fault t_tape t_place_62 t_sort t_value))) C (c_X12_isLetter hw) dX12_cutAll_64 mth_X12_isLetter tml_X12_173 (fun _ _ h => trivial) Fz0_ok (rml (by decide) (by decide)) (Nat.le_of_ble_eq_true rfl) rfl rfl [] [0, 1, 2, 3, 4] [0, 1, 2, 3, 4] rfl rfl rfl rfl rfl rfl (fun _ => rfl) rfl (fun _ => rfl) (fun r64 u hw => ?_)
          obtain ⟨z_64, hw⟩ := hw
          show AW X 7 0 0 (w_X12_cutAll (cxG X) A_t A_t_tape A_t_place A_t_sort A_t_value U_t_thrown U_t_words U_t_towns U_t_op U_t_arg U_t_codes U_t_facts U_t_pile U_t_shadeDay U_t_sun U_t_isShut U_t_sunny U_t_cost U_t_leastCost U_t_leastEnd U_t_wayOf U_t_wayMany U_t_whereAt U_t_reach U_t_likely U_t_crowdAt U_t_crowdBy U_t_crowdRounds U_t_bestSquare U_t_bestBy U_t_spotsMany U_t_spotAt U_t_followed U_t_followOf U_t_toldMany U_t_toldOf U_t_stepsTo U_t_reachOne U_t_isMarked U_t_markOf t_taped t_size t_at t_fault t_tape t_place_62 t_sort t_value) pl 67 [some (.ref A_t), some (.int l1), some (.int l2), some (.int x31), some (.int l2), some (.long 0), none] [.int r64]
          refine a_if_eq (pc := 67) (tgt := 152) C dX12_cutAll_67 (by decide) (fun c_67 => ?_) (fun c_67 => ?_)
          · replace hw := hw.1 c_67
            refine a_iload_n (pc := 152) (i := 3) C dX12_cutAll_152 rfl rfl ?_
            refine a_callSi (pc := 153) (As := [.int x31]) (st := []) (ws' := (fun _ => (w_X12_cutAll (cxG X) A_t A_t_tape A_t_place A_t_sort A_t_value U_t_thrown U_t_words U_t_towns U_t_op U_t_arg U_t_codes U_t_facts U_t_pile U_t_shadeDay U_t_sun U_t_isShut U_t_sunny U_t_cost U_t_leastCost U_t_leastEnd U_t_wayOf U_t_wayMany U_t_whereAt U_t_reach U_t_likely U_t_crowdAt U_t_crowdBy U_t_crowdRounds U_t_bestSquare U_t_bestBy U_t_spotsMany U_t_spotAt U_t_followed U_t_followOf U_t_toldMany U_t_toldOf U_t_stepsTo U_t_reachOne U_t_isMarked U_t_markOf t_taped t_size t_at t_fault t_tape t_place_62 t_sort t_value))) C (c_X12_isDigit hw) dX12_cutAll_153 mth_X12_isDigit tml_X12_186 (fun _ _ h => trivial) Fz0_ok (rml (by decide) (by decide)) (Nat.le_of_ble_eq_true rfl) rfl rfl [] [0, 1, 2, 3, 4] [0, 1, 2, 3, 4] rfl rfl rfl rfl rfl rfl (fun _ => rfl) rfl (fun _ => rfl) (fun r153 u hw => ?_)
            obtain ⟨z_153, hw⟩ := hw
            show AW X 7 0 0 (w_X12_cutAll (cxG X) A_t A_t_tape A_t_place A_t_sort A_t_value U_t_thrown U_t_words U_t_towns U_t_op U_t_arg U_t_codes U_t_facts U_t_pile U_t_shadeDay U_t_sun U_t_isShut U_t_sunny U_t_cost U_t_leastCost U_t_leastEnd U_t_wayOf U_t_wayMany U_t_whereAt U_t_reach U_t_likely U_t_crowdAt U_t_crowdBy U_t_crowdRounds U_t_bestSquare U_t_bestBy U_t_spotsMany U_t_spotAt U_t_followed U_t_followOf U_t_toldMany U_t_toldOf U_t_stepsTo U_t_reachOne U_t_isMarked U_t_markOf t_taped t_size t_at t_fault t_tape t_place_62 t_sort t_value) pl 156 [some (.ref A_t), some (.int l1), some (.int l2), some (.int x31), some (.int l2), some (.long 0), none] [.int r153]
            refine a_if_eq (pc := 156) (tgt := 240) C dX12_cutAll_156 (by decide) (fun c_156 => ?_) (fun c_156 => ?_)
            · replace hw := hw.1 c_156
              refine a_iload_n (pc := 240) (i := 3) C dX12_cutAll_240 rfl rfl ?_
              refine a_i2l (pc := 241) C dX12_cutAll_241 ?_
              refine a_topl (fun x242 e_x242 => ?_)
              replace hw := hw x242 e_x242
              refine s_lstore (pc := 242) (i := 5) (lo' := [some (.ref A_t), some (.int l1), some (.int l2), some (.int x31), some (.int l2), some (.long x242), none]) C dX12_cutAll_242 (by decide) rfl rfl ?_
              refine a_aload_n (pc := 244) (i := 0) C dX12_cutAll_244 rfl rfl ?_
              refine a_get (pc := 245) C fl_X12_24 dX12_cutAll_245 0 rfl rfl ?_
              refine a_iload_n (pc := 248) (i := 1) C dX12_cutAll_248 rfl rfl ?_
              refine a_iload_n (pc := 249) (i := 3) C dX12_cutAll_249 rfl rfl ?_
              refine a_callSi (pc := 250) (As := [.int x31]) (st := [.int l1, .ref A_t_sort]) (ws' := (fun _ => (w_X12_cutAll (cxG X) A_t A_t_tape A_t_place A_t_sort A_t_value U_t_thrown U_t_words U_t_towns U_t_op U_t_arg U_t_codes U_t_facts U_t_pile U_t_shadeDay U_t_sun U_t_isShut U_t_sunny U_t_cost U_t_leastCost U_t_leastEnd U_t_wayOf U_t_wayMany U_t_whereAt U_t_reach U_t_likely U_t_crowdAt U_t_crowdBy U_t_crowdRounds U_t_bestSquare U_t_bestBy U_t_spotsMany U_t_spotAt U_t_followed U_t_followOf U_t_toldMany U_t_toldOf U_t_stepsTo U_t_reachOne U_t_isMarked U_t_markOf t_taped t_size t_at t_fault t_tape t_place_62 t_sort t_value))) C (c_X12_isSignOf hw) dX12_cutAll_250 mth_X12_isSignOf tml_X12_193 (fun _ _ h => trivial) Fz0_ok (rml (by decide) (by decide)) (Nat.le_of_ble_eq_true rfl) rfl rfl [] [0, 1, 2, 3, 4] [0, 1, 2, 3, 4] rfl rfl rfl rfl rfl rfl (fun _ => rfl) rfl (fun _ => rfl) (fun r250 u hw => ?_)
              obtain ⟨z_250, hw⟩ := hw
              show AW X 7 0 0 (w_X12_cutAll (cxG X) A_t A_t_tape A_t_place A_t_sort A_t_value U_t_thrown U_t_words U_t_towns U_t_op U_t_arg U_t_codes U_t_facts U_t_pile U_t_shadeDay U_t_sun U_t_isShut U_t_sunny U_t_cost U_t_leastCost U_t_leastEnd U_t_wayOf U_t_wayMany U_t_whereAt U_t_reach U_t_likely U_t_crowdAt U_t_crowdBy U_t_crowdRounds U_t_bestSquare U_t_bestBy U_t_spotsMany U_t_spotAt U_t_followed U_t_followOf U_t_toldMany U_t_toldOf U_t_stepsTo U_t_reachOne U_t_isMarked U_t_markOf t_taped t_size t_at t_fault t_tape t_place_62 t_sort t_value) pl 253 [some (.ref A_t), some (.int l1), some (.int l2), some (.int x31), some (.int l2), some (.long x242), none] [.int r250, .int l1, .ref A_t_sort]
              refine a_if_eq (pc := 253) (tgt := 260) C dX12_cutAll_253 (by decide) (fun c_253 => ?_) (fun c_253 => ?_)
              · replace hw := hw.1 c_253
                refine a_iconst (pc := 260) C dX12_cutAll_260 kc_4 ?_
                refine a_msk [true, true, true, false, false, true, true] rfl ?_
                exact m_X12_cutAll_b261 C hret (kb := kb) hkb hx_279 hw
              · replace hw := hw.2 c_253
                refine a_iconst (pc := 256) C dX12_cutAll_256 kc_3 ?_
                refine a_goto (pc := 257) (tgt := 261) C dX12_cutAll_257 (by decide) ?_
                refine a_msk [true, true, true, false, false, true, true] rfl ?_
                exact m_X12_cutAll_b261 C hret (kb := kb) hkb hx_279 hw
            · replace hw := hw.2 c_156
              refine a_msk [true, true, true, false, true, true, true] rfl ?_
              obtain ⟨n159, hw⟩ := hw
              refine m_X12_cutAll_L159 C hret (fun t_taped t_size t_at t_fault t_place t_sort t_value l1 l2 l4 l5 hw => ?_) n159 _ _ _ _ _ _ _ _ _ _ _ hw
              exact m_X12_cutAll_b218 C hret (kb := kb) hkb hx_279 hw
          · replace hw := hw.2 c_67
            refine a_msk [true, true, true, false, true, true, true] rfl ?_
            obtain ⟨n70, hw⟩ := hw
            refine m_X12_cutAll_L70 C hret (fun t_taped t_size t_at t_fault t_place t_sort t_value l1 l2 l4 l5 hw => ?_) n70 _ _ _ _ _ _ _ _ _ _ _ hw
            exact m_X12_cutAll_b129 C hret (kb := kb) hkb hx_279 hw
        · replace hw := hw.2 c_41
          refine a_inc (pc := 44) (i := 2) C (fun y => [some (.ref A_t), some (.int l1), some (.int y), some (.int x31), none, none, none]) dX12_cutAll_44 rfl kc_1 (by decide) rfl (fun _ => rfl) (fun y44 e_y44 => ?_)
          replace hw := hw y44 e_y44
          refine a_goto (pc := 47) (tgt := 17) C dX12_cutAll_47 (by decide) ?_
          refine a_msk [true, true, true, false, true, true, true] rfl ?_
          exact hkb _ _ _ _ _ _ _ _ _ hw
set_option maxRecDepth 20000 in
theorem m_X12_cutAll {X : Ctx} (C : Cok X cX12_cutAll 7 RX12 (rmL 2) Fz0) {pl : Pool} {A_t A_t_tape A_t_place A_t_sort A_t_value : Nat} {U_t_thrown U_t_words U_t_towns U_t_op U_t_arg U_t_codes U_t_facts U_t_pile U_t_shadeDay U_t_sun U_t_isShut U_t_sunny U_t_cost U_t_leastCost U_t_leastEnd U_t_wayOf U_t_wayMany U_t_whereAt U_t_reach U_t_likely U_t_crowdAt U_t_crowdBy U_t_crowdRounds U_t_bestSquare U_t_bestBy U_t_spotsMany U_t_spotAt U_t_followed U_t_followOf U_t_toldMany U_t_toldOf U_t_stepsTo U_t_reachOne U_t_isMarked U_t_markOf : Value} {t_tape : Nat → Int32} {t_taped : Int32} {t_size : Int32} {t_at : Int32} {t_fault : Int32} {t_place : Nat → Int32} {t_sort : Nat → Int32} {t_value : Nat → Int64} {post : Int32 → Int32 → Int32 → Int32 → (Nat → Int32) → (Nat → Int32) → (Nat → Int64) → Prop} (hret : ∀ (w0 : Int32) (w1 : Int32) (w2 : Int32) (w3 : Int32) (w4 : Nat → Int32) (w5 : Nat → Int32) (w6 : Nat → Int64) (pc : Nat) (lo : List (Option Value)), post w0 w1 w2 w3 w4 w5 w6 → decode cX12_cutAll pc = .ok (.return_, 1) → AW X 7 0 0 (w_X12_cutAll (cxG X) A_t A_t_tape A_t_place A_t_sort A_t_value U_t_thrown U_t_words U_t_towns U_t_op U_t_arg U_t_codes U_t_facts U_t_pile U_t_shadeDay U_t_sun U_t_isShut U_t_sunny U_t_cost U_t_leastCost U_t_leastEnd U_t_wayOf U_t_wayMany U_t_whereAt U_t_reach U_t_likely U_t_crowdAt U_t_crowdBy U_t_crowdRounds U_t_bestSquare U_t_bestBy U_t_spotsMany U_t_spotAt U_t_followed U_t_followOf U_t_toldMany U_t_toldOf U_t_stepsTo U_t_reachOne U_t_isMarked U_t_markOf w0 w1 w2 w3 t_tape w4 w5 w6) pl pc lo []) (hw : wp_X12_cutAll t_tape t_taped t_size t_at t_fault t_place t_sort t_value post) : AW X 7 0 0 (w_X12_cutAll (cxG X) A_t A_t_tape A_t_place A_t_sort A_t_value U_t_thrown U_t_words U_t_towns U_t_op U_t_arg U_t_codes U_t_facts U_t_pile U_t_shadeDay U_t_sun U_t_isShut U_t_sunny U_t_cost U_t_leastCost U_t_leastEnd U_t_wayOf U_t_wayMany U_t_whereAt U_t_reach U_t_likely U_t_crowdAt U_t_crowdBy U_t_crowdRounds U_t_bestSquare U_t_bestBy U_t_spotsMany U_t_spotAt U_t_followed U_t_followOf U_t_toldMany U_t_toldOf U_t_stepsTo U_t_reachOne U_t_isMarked U_t_markOf t_taped t_size t_at t_fault t_tape t_place t_sort t_value) pl 0 [some (.ref A_t), none, none, none, none, none, none] [] := by
  refine a_aload_n (pc := 0) (i := 0) C dX12_cutAll_0 rfl rfl ?_
  refine a_aload_n (pc := 1) (i := 0) C dX12_cutAll_1 rfl rfl ?_
  refine a_get (pc := 2) C fl_X12_11 dX12_cutAll_2 0 rfl rfl ?_
  refine a_putW (pc := 5) (ws' := (w_X12_cutAll (cxG X) A_t A_t_tape A_t_place A_t_sort A_t_value U_t_thrown U_t_words U_t_towns U_t_op U_t_arg U_t_codes U_t_facts U_t_pile U_t_shadeDay U_t_sun U_t_isShut U_t_sunny U_t_cost U_t_leastCost U_t_leastEnd U_t_wayOf U_t_wayMany U_t_whereAt U_t_reach U_t_likely U_t_crowdAt U_t_crowdBy U_t_crowdRounds U_t_bestSquare U_t_bestBy U_t_spotsMany U_t_spotAt U_t_followed U_t_followOf U_t_toldMany U_t_toldOf U_t_stepsTo U_t_reachOne U_t_isMarked U_t_markOf t_taped t_taped t_at t_fault t_tape t_place t_sort t_value)) C fl_X12_177 pu_12_3 dX12_cutAll_5 0 rfl rfl rfl (Nat.le_of_ble_eq_true rfl) rfl ?_
  refine a_aload_n (pc := 8) (i := 0) C dX12_cutAll_8 rfl rfl ?_
  refine a_iconst (pc := 9) C dX12_cutAll_9 kc_0 ?_
  refine a_putW (pc := 10) (ws' := (w_X12_cutAll (cxG X) A_t A_t_tape A_t_place A_t_sort A_t_value U_t_thrown U_t_words U_t_towns U_t_op U_t_arg U_t_codes U_t_facts U_t_pile U_t_shadeDay U_t_sun U_t_isShut U_t_sunny U_t_cost U_t_leastCost U_t_leastEnd U_t_wayOf U_t_wayMany U_t_whereAt U_t_reach U_t_likely U_t_crowdAt U_t_crowdBy U_t_crowdRounds U_t_bestSquare U_t_bestBy U_t_spotsMany U_t_spotAt U_t_followed U_t_followOf U_t_toldMany U_t_toldOf U_t_stepsTo U_t_reachOne U_t_isMarked U_t_markOf 0 t_taped t_at t_fault t_tape t_place t_sort t_value)) C fl_X12_11 pu_12_2 dX12_cutAll_10 0 rfl rfl rfl (Nat.le_of_ble_eq_true rfl) rfl ?_
  refine a_iconst (pc := 13) C dX12_cutAll_13 kc_0 ?_
  refine s_istore_n (pc := 14) (i := 1) (lo' := [some (.ref A_t), some (.int 0), none, none, none, none, none]) C dX12_cutAll_14 rfl (by decide) rfl rfl ?_
  refine a_iconst (pc := 15) C dX12_cutAll_15 kc_0 ?_
  refine s_istore_n (pc := 16) (i := 2) (lo' := [some (.ref A_t), some (.int 0), some (.int 0), none, none, none, none]) C dX12_cutAll_16 rfl (by decide) rfl rfl ?_
  obtain ⟨n17, hw⟩ := hw
  refine m_X12_cutAll_L17 C hret (fun t_taped t_size t_at t_fault t_place t_sort t_value l1 hw => ?_) n17 _ _ _ _ _ _ _ _ _ hw
  refine a_aload_n (pc := 279) (i := 0) C dX12_cutAll_279 rfl rfl ?_
  refine a_get (pc := 280) C fl_X12_24 dX12_cutAll_280 0 rfl rfl ?_
  refine a_iload_n (pc := 283) (i := 1) C dX12_cutAll_283 rfl rfl ?_
  refine a_iconst (pc := 284) C dX12_cutAll_284 kc_0 ?_
  obtain ⟨i_285, hw⟩ := hw
  refine a_iastW (pc := 285) C (fun h => (w_X12_cutAll (cxG X) A_t A_t_tape A_t_place A_t_sort A_t_value U_t_thrown U_t_words U_t_towns U_t_op U_t_arg U_t_codes U_t_facts U_t_pile U_t_shadeDay U_t_sun U_t_isShut U_t_sunny U_t_cost U_t_leastCost U_t_leastEnd U_t_wayOf U_t_wayMany U_t_whereAt U_t_reach U_t_likely U_t_crowdAt U_t_crowdBy U_t_crowdRounds U_t_bestSquare U_t_bestBy U_t_spotsMany U_t_spotAt U_t_followed U_t_followOf U_t_toldMany U_t_toldOf U_t_stepsTo U_t_reachOne U_t_isMarked U_t_markOf t_taped t_size t_at t_fault t_tape t_place h t_value)) dX12_cutAll_285 3 rfl i_285 (fun _ => rfl) (fun t_sort_285 e_t_sort_285 => ?_)
  replace hw := hw t_sort_285 e_t_sort_285
  refine a_aload_n (pc := 286) (i := 0) C dX12_cutAll_286 rfl rfl ?_
  refine a_get (pc := 287) C fl_X12_27 dX12_cutAll_287 0 rfl rfl ?_
  refine a_iload_n (pc := 290) (i := 1) C dX12_cutAll_290 rfl rfl ?_
  refine a_aload_n (pc := 291) (i := 0) C dX12_cutAll_291 rfl rfl ?_
  refine a_get (pc := 292) C fl_X12_177 dX12_cutAll_292 0 rfl rfl ?_
  obtain ⟨i_295, hw⟩ := hw
  refine a_iastW (pc := 295) C (fun h => (w_X12_cutAll (cxG X) A_t A_t_tape A_t_place A_t_sort A_t_value U_t_thrown U_t_words U_t_towns U_t_op U_t_arg U_t_codes U_t_facts U_t_pile U_t_shadeDay U_t_sun U_t_isShut U_t_sunny U_t_cost U_t_leastCost U_t_leastEnd U_t_wayOf U_t_wayMany U_t_whereAt U_t_reach U_t_likely U_t_crowdAt U_t_crowdBy U_t_crowdRounds U_t_bestSquare U_t_bestBy U_t_spotsMany U_t_spotAt U_t_followed U_t_followOf U_t_toldMany U_t_toldOf U_t_stepsTo U_t_reachOne U_t_isMarked U_t_markOf t_taped t_size t_at t_fault t_tape h t_sort_285 t_value)) dX12_cutAll_295 2 rfl i_295 (fun _ => rfl) (fun t_place_295 e_t_place_295 => ?_)
  replace hw := hw t_place_295 e_t_place_295
  refine a_aload_n (pc := 296) (i := 0) C dX12_cutAll_296 rfl rfl ?_
  refine a_iconst (pc := 297) C dX12_cutAll_297 kc_0 ?_
  refine a_putW (pc := 298) (ws' := (w_X12_cutAll (cxG X) A_t A_t_tape A_t_place A_t_sort A_t_value U_t_thrown U_t_words U_t_towns U_t_op U_t_arg U_t_codes U_t_facts U_t_pile U_t_shadeDay U_t_sun U_t_isShut U_t_sunny U_t_cost U_t_leastCost U_t_leastEnd U_t_wayOf U_t_wayMany U_t_whereAt U_t_reach U_t_likely U_t_crowdAt U_t_crowdBy U_t_crowdRounds U_t_bestSquare U_t_bestBy U_t_spotsMany U_t_spotAt U_t_followed U_t_followOf U_t_toldMany U_t_toldOf U_t_stepsTo U_t_reachOne U_t_isMarked U_t_markOf t_taped t_size 0 t_fault t_tape t_place_295 t_sort_285 t_value)) C fl_X12_196 pu_12_7 dX12_cutAll_298 0 rfl rfl rfl (Nat.le_of_ble_eq_true rfl) rfl ?_
  refine a_aload_n (pc := 301) (i := 0) C dX12_cutAll_301 rfl rfl ?_
  refine a_iconst (pc := 302) C dX12_cutAll_302 kc_0 ?_
  refine a_putW (pc := 303) (ws' := (w_X12_cutAll (cxG X) A_t A_t_tape A_t_place A_t_sort A_t_value U_t_thrown U_t_words U_t_towns U_t_op U_t_arg U_t_codes U_t_facts U_t_pile U_t_shadeDay U_t_sun U_t_isShut U_t_sunny U_t_cost U_t_leastCost U_t_leastEnd U_t_wayOf U_t_wayMany U_t_whereAt U_t_reach U_t_likely U_t_crowdAt U_t_crowdBy U_t_crowdRounds U_t_bestSquare U_t_bestBy U_t_spotsMany U_t_spotAt U_t_followed U_t_followOf U_t_toldMany U_t_toldOf U_t_stepsTo U_t_reachOne U_t_isMarked U_t_markOf t_taped t_size 0 0 t_tape t_place_295 t_sort_285 t_value)) C fl_X12_199 pu_12_8 dX12_cutAll_303 0 rfl rfl rfl (Nat.le_of_ble_eq_true rfl) rfl ?_
  exact hret _ _ _ _ _ _ _ _ _ hw dX12_cutAll_306
theorem c_X12_cutAll {l : Launch} {g : GG} {pl : Pool} (A_t A_t_tape A_t_place A_t_sort A_t_value : Nat) (U_t_thrown U_t_words U_t_towns U_t_op U_t_arg U_t_codes U_t_facts U_t_pile U_t_shadeDay U_t_sun U_t_isShut U_t_sunny U_t_cost U_t_leastCost U_t_leastEnd U_t_wayOf U_t_wayMany U_t_whereAt U_t_reach U_t_likely U_t_crowdAt U_t_crowdBy U_t_crowdRounds U_t_bestSquare U_t_bestBy U_t_spotsMany U_t_spotAt U_t_followed U_t_followOf U_t_toldMany U_t_toldOf U_t_stepsTo U_t_reachOne U_t_isMarked U_t_markOf : Value) {t_tape : Nat → Int32} {t_taped : Int32} {t_size : Int32} {t_at : Int32} {t_fault : Int32} {t_place : Nat → Int32} {t_sort : Nat → Int32} {t_value : Nat → Int64} {post : Int32 → Int32 → Int32 → Int32 → (Nat → Int32) → (Nat → Int32) → (Nat → Int64) → Prop} (hw : wp_X12_cutAll t_tape t_taped t_size t_at t_fault t_place t_sort t_value post) : MV l yX12_cutAll cX12_cutAll 7 (none : Option Jvm.ClassFile.FieldType) (rmL 2) g Fz0 [.ref A_t] (w_X12_cutAll g A_t A_t_tape A_t_place A_t_sort A_t_value U_t_thrown U_t_words U_t_towns U_t_op U_t_arg U_t_codes U_t_facts U_t_pile U_t_shadeDay U_t_sun U_t_isShut U_t_sunny U_t_cost U_t_leastCost U_t_leastEnd U_t_wayOf U_t_wayMany U_t_whereAt U_t_reach U_t_likely U_t_crowdAt U_t_crowdBy U_t_crowdRounds U_t_bestSquare U_t_bestBy U_t_spotsMany U_t_spotAt U_t_followed U_t_followOf U_t_toldMany U_t_toldOf U_t_stepsTo U_t_reachOne U_t_isMarked U_t_markOf t_taped t_size t_at t_fault t_tape t_place t_sort t_value) pl (fun (u : Int32 × Int32 × Int32 × Int32 × (Nat → Int32) × (Nat → Int32) × (Nat → Int64)) => post u.1 u.2.1 u.2.2.1 u.2.2.2.1 u.2.2.2.2.1 u.2.2.2.2.2.1 u.2.2.2.2.2.2) (fun u => (w_X12_cutAll g A_t A_t_tape A_t_place A_t_sort A_t_value U_t_thrown U_t_words U_t_towns U_t_op U_t_arg U_t_codes U_t_facts U_t_pile U_t_shadeDay U_t_sun U_t_isShut U_t_sunny U_t_cost U_t_leastCost U_t_leastEnd U_t_wayOf U_t_wayMany U_t_whereAt U_t_reach U_t_likely U_t_crowdAt U_t_crowdBy U_t_crowdRounds U_t_bestSquare U_t_bestBy U_t_spotsMany U_t_spotAt U_t_followed U_t_followOf U_t_toldMany U_t_toldOf U_t_stepsTo U_t_reachOne U_t_isMarked U_t_markOf u.1 u.2.1 u.2.2.1 u.2.2.2.1 t_tape u.2.2.2.2.1 u.2.2.2.2.2.1 u.2.2.2.2.2.2)) (fun _ => pl) 0 0 := by
  refine met_v (own := RX12) rfl rfl (Nat.le_of_ble_eq_true rfl) (fun X hg hl C hini hret => ?_)
  subst hg
  subst hl
  exact m_X12_cutAll C (fun w0 w1 w2 w3 w4 w5 w6 pc lo hp hd => hret (w0, w1, w2, w3, w4, w5, w6) pc lo hp hd) hw
abbrev w_X12_wrong (g : GG) (A_t A_t_place : Nat) (U_t_thrown U_t_tape U_t_taped U_t_size U_t_sort U_t_value U_t_words U_t_towns U_t_op U_t_arg U_t_codes U_t_facts U_t_pile U_t_shadeDay U_t_sun U_t_isShut U_t_sunny U_t_cost U_t_leastCost U_t_leastEnd U_t_wayOf U_t_wayMany U_t_whereAt U_t_reach U_t_likely U_t_crowdAt U_t_crowdBy U_t_crowdRounds U_t_bestSquare U_t_bestBy U_t_spotsMany U_t_spotAt U_t_followed U_t_followOf U_t_toldMany U_t_toldOf U_t_stepsTo U_t_reachOne U_t_isMarked U_t_markOf : Value) (t_at : Int32) (t_fault : Int32) (t_place : Nat → Int32) : va_W := [(A_t, ob 12 [U_t_thrown, U_t_tape, U_t_taped, U_t_size, U_t_sort, .ref A_t_place, U_t_value, .int t_at, .int t_fault, U_t_words, U_t_towns, U_t_op, U_t_arg, U_t_codes, U_t_facts, U_t_pile, U_t_shadeDay, U_t_sun, U_t_isShut, U_t_sunny, U_t_cost, U_t_leastCost, U_t_leastEnd, U_t_wayOf, U_t_wayMany, U_t_whereAt, U_t_reach, U_t_likely, U_t_crowdAt, U_t_crowdBy, U_t_crowdRounds, U_t_bestSquare, U_t_bestBy, U_t_spotsMany, U_t_spotAt, U_t_followed, U_t_followOf, U_t_toldMany, U_t_toldOf, U_t_stepsTo, U_t_reachOne, U_t_isMarked, U_t_markOf]), (A_t_place, aI g 1002 t_place)]
set_option maxRecDepth 20000 in
theorem m_X12_wrong {X : Ctx} (C : Cok X cX12_wrong 2 RX12 (rmL 0) Fz0) {pl : Pool} {A_t A_t_place : Nat} {U_t_thrown U_t_tape U_t_taped U_t_size U_t_sort U_t_value U_t_words U_t_towns U_t_op U_t_arg U_t_codes U_t_facts U_t_pile U_t_shadeDay U_t_sun U_t_isShut U_t_sunny U_t_cost U_t_leastCost U_t_leastEnd U_t_wayOf U_t_wayMany U_t_whereAt U_t_reach U_t_likely U_t_crowdAt U_t_crowdBy U_t_crowdRounds U_t_bestSquare U_t_bestBy U_t_spotsMany U_t_spotAt U_t_followed U_t_followOf U_t_toldMany U_t_toldOf U_t_stepsTo U_t_reachOne U_t_isMarked U_t_markOf : Value} {t_at : Int32} {t_place : Nat → Int32} {t_fault : Int32} {p1 : Int32} {post : Int32 → Prop} (hret : ∀ (w0 : Int32) (pc : Nat) (lo : List (Option Value)), post w0 → decode cX12_wrong pc = .ok (.return_, 1) → AW X 2 0 0 (w_X12_wrong (cxG X) A_t A_t_place U_t_thrown U_t_tape U_t_taped U_t_size U_t_sort U_t_value U_t_words U_t_towns U_t_op U_t_arg U_t_codes U_t_facts U_t_pile U_t_shadeDay U_t_sun U_t_isShut U_t_sunny U_t_cost U_t_leastCost U_t_leastEnd U_t_wayOf U_t_wayMany U_t_whereAt U_t_reach U_t_likely U_t_crowdAt U_t_crowdBy U_t_crowdRounds U_t_bestSquare U_t_bestBy U_t_spotsMany U_t_spotAt U_t_followed U_t_followOf U_t_toldMany U_t_toldOf U_t_stepsTo U_t_reachOne U_t_isMarked U_t_markOf t_at w0 t_place) pl pc lo []) (hw : wp_X12_wrong t_at t_place t_fault p1 post) : AW X 2 0 0 (w_X12_wrong (cxG X) A_t A_t_place U_t_thrown U_t_tape U_t_taped U_t_size U_t_sort U_t_value U_t_words U_t_towns U_t_op U_t_arg U_t_codes U_t_facts U_t_pile U_t_shadeDay U_t_sun U_t_isShut U_t_sunny U_t_cost U_t_leastCost U_t_leastEnd U_t_wayOf U_t_wayMany U_t_whereAt U_t_reach U_t_likely U_t_crowdAt U_t_crowdBy U_t_crowdRounds U_t_bestSquare U_t_bestBy U_t_spotsMany U_t_spotAt U_t_followed U_t_followOf U_t_toldMany U_t_toldOf U_t_stepsTo U_t_reachOne U_t_isMarked U_t_markOf t_at t_fault t_place) pl 0 [some (.ref A_t), some (.int p1)] [] := by
  refine a_aload_n (pc := 0) (i := 0) C dX12_wrong_0 rfl rfl ?_
  refine a_get (pc := 1) C fl_X12_199 dX12_wrong_1 0 rfl rfl ?_
  refine a_if_ne (pc := 4) (tgt := 25) C dX12_wrong_4 (by decide) (fun c_4 => ?_) (fun c_4 => ?_)
  · replace hw := hw.1 c_4
    exact hret _ _ _ hw dX12_wrong_25
  · replace hw := hw.2 c_4
    refine a_aload_n (pc := 7) (i := 0) C dX12_wrong_7 rfl rfl ?_
    refine a_iload_n (pc := 8) (i := 1) C dX12_wrong_8 rfl rfl ?_
    refine a_bipush (pc := 9) C dX12_wrong_9 kb_16 ?_
    refine a_aload_n (pc := 11) (i := 0) C dX12_wrong_11 rfl rfl ?_
    refine a_get (pc := 12) C fl_X12_27 dX12_wrong_12 0 rfl rfl ?_
    refine a_aload_n (pc := 15) (i := 0) C dX12_wrong_15 rfl rfl ?_
    refine a_get (pc := 16) C fl_X12_196 dX12_wrong_16 0 rfl rfl ?_
    obtain ⟨i_19, hw⟩ := hw
    refine a_iald (pc := 19) C dX12_wrong_19 1 rfl i_19 ?_
    refine a_imul (pc := 20) C dX12_wrong_20 ?_
    refine a_iadd (pc := 21) C dX12_wrong_21 ?_
    refine a_topi (fun x22 e_x22 => ?_)
    replace hw := hw x22 e_x22
    refine a_putW (pc := 22) (ws' := (w_X12_wrong (cxG X) A_t A_t_place U_t_thrown U_t_tape U_t_taped U_t_size U_t_sort U_t_value U_t_words U_t_towns U_t_op U_t_arg U_t_codes U_t_facts U_t_pile U_t_shadeDay U_t_sun U_t_isShut U_t_sunny U_t_cost U_t_leastCost U_t_leastEnd U_t_wayOf U_t_wayMany U_t_whereAt U_t_reach U_t_likely U_t_crowdAt U_t_crowdBy U_t_crowdRounds U_t_bestSquare U_t_bestBy U_t_spotsMany U_t_spotAt U_t_followed U_t_followOf U_t_toldMany U_t_toldOf U_t_stepsTo U_t_reachOne U_t_isMarked U_t_markOf t_at x22 t_place)) C fl_X12_199 pu_12_8 dX12_wrong_22 0 rfl rfl rfl (Nat.le_of_ble_eq_true rfl) rfl ?_
    exact hret _ _ _ hw dX12_wrong_25
theorem c_X12_wrong {l : Launch} {g : GG} {pl : Pool} (A_t A_t_place : Nat) (U_t_thrown U_t_tape U_t_taped U_t_size U_t_sort U_t_value U_t_words U_t_towns U_t_op U_t_arg U_t_codes U_t_facts U_t_pile U_t_shadeDay U_t_sun U_t_isShut U_t_sunny U_t_cost U_t_leastCost U_t_leastEnd U_t_wayOf U_t_wayMany U_t_whereAt U_t_reach U_t_likely U_t_crowdAt U_t_crowdBy U_t_crowdRounds U_t_bestSquare U_t_bestBy U_t_spotsMany U_t_spotAt U_t_followed U_t_followOf U_t_toldMany U_t_toldOf U_t_stepsTo U_t_reachOne U_t_isMarked U_t_markOf : Value) {t_at : Int32} {t_place : Nat → Int32} {t_fault : Int32} {p1 : Int32} {post : Int32 → Prop} (hw : wp_X12_wrong t_at t_place t_fault p1 post) : MV l yX12_wrong cX12_wrong 2 (none : Option Jvm.ClassFile.FieldType) (rmL 0) g Fz0 [.ref A_t, .int p1] (w_X12_wrong g A_t A_t_place U_t_thrown U_t_tape U_t_taped U_t_size U_t_sort U_t_value U_t_words U_t_towns U_t_op U_t_arg U_t_codes U_t_facts U_t_pile U_t_shadeDay U_t_sun U_t_isShut U_t_sunny U_t_cost U_t_leastCost U_t_leastEnd U_t_wayOf U_t_wayMany U_t_whereAt U_t_reach U_t_likely U_t_crowdAt U_t_crowdBy U_t_crowdRounds U_t_bestSquare U_t_bestBy U_t_spotsMany U_t_spotAt U_t_followed U_t_followOf U_t_toldMany U_t_toldOf U_t_stepsTo U_t_reachOne U_t_isMarked U_t_markOf t_at t_fault t_place) pl (fun (u : Int32) => post u) (fun u => (w_X12_wrong g A_t A_t_place U_t_thrown U_t_tape U_t_taped U_t_size U_t_sort U_t_value U_t_words U_t_towns U_t_op U_t_arg U_t_codes U_t_facts U_t_pile U_t_shadeDay U_t_sun U_t_isShut U_t_sunny U_t_cost U_t_leastCost U_t_leastEnd U_t_wayOf U_t_wayMany U_t_whereAt U_t_reach U_t_likely U_t_crowdAt U_t_crowdBy U_t_crowdRounds U_t_bestSquare U_t_bestBy U_t_spotsMany U_t_spotAt U_t_followed U_t_followOf U_t_toldMany U_t_toldOf U_t_stepsTo U_t_reachOne U_t_isMarked U_t_markOf t_at u t_place)) (fun _ => pl) 0 0 := by
  refine met_v (own := RX12) rfl rfl (Nat.le_of_ble_eq_true rfl) (fun X hg hl C hini hret => ?_)
  subst hg
  subst hl
  exact m_X12_wrong C (fun w0 pc lo hp hd => hret w0 pc lo hp hd) hw
abbrev w_X12_isSign (g : GG) (A_t A_t_sort A_t_value : Nat) (U_t_thrown U_t_tape U_t_taped U_t_size U_t_place U_t_words U_t_towns U_t_op U_t_arg U_t_codes U_t_facts U_t_pile U_t_shadeDay U_t_sun U_t_isShut U_t_sunny U_t_cost U_t_leastCost U_t_leastEnd U_t_wayOf U_t_wayMany U_t_whereAt U_t_reach U_t_likely U_t_crowdAt U_t_crowdBy U_t_crowdRounds U_t_bestSquare U_t_bestBy U_t_spotsMany U_t_spotAt U_t_followed U_t_followOf U_t_toldMany U_t_toldOf U_t_stepsTo U_t_reachOne U_t_isMarked U_t_markOf : Value) (t_at : Int32) (t_fault : Int32) (t_sort : Nat → Int32) (t_value : Nat → Int64) : va_W := [(A_t, ob 12 [U_t_thrown, U_t_tape, U_t_taped, U_t_size, .ref A_t_sort, U_t_place, .ref A_t_value, .int t_at, .int t_fault, U_t_words, U_t_towns, U_t_op, U_t_arg, U_t_codes, U_t_facts, U_t_pile, U_t_shadeDay, U_t_sun, U_t_isShut, U_t_sunny, U_t_cost, U_t_leastCost, U_t_leastEnd, U_t_wayOf, U_t_wayMany, U_t_whereAt, U_t_reach, U_t_likely, U_t_crowdAt, U_t_crowdBy, U_t_crowdRounds, U_t_bestSquare, U_t_bestBy, U_t_spotsMany, U_t_spotAt, U_t_followed, U_t_followOf, U_t_toldMany, U_t_toldOf, U_t_stepsTo, U_t_reachOne, U_t_isMarked, U_t_markOf]), (A_t_sort, aI g 1002 t_sort), (A_t_value, aJ g 1002 t_value)]
set_option maxRecDepth 20000 in
theorem m_X12_isSign {X : Ctx} (C : Cok X cX12_isSign 2 RX12 (rmL 0) Fz0) {pl : Pool} {A_t A_t_sort A_t_value : Nat} {U_t_thrown U_t_tape U_t_taped U_t_size U_t_place U_t_words U_t_towns U_t_op U_t_arg U_t_codes U_t_facts U_t_pile U_t_shadeDay U_t_sun U_t_isShut U_t_sunny U_t_cost U_t_leastCost U_t_leastEnd U_t_wayOf U_t_wayMany U_t_whereAt U_t_reach U_t_likely U_t_crowdAt U_t_crowdBy U_t_crowdRounds U_t_bestSquare U_t_bestBy U_t_spotsMany U_t_spotAt U_t_followed U_t_followOf U_t_toldMany U_t_toldOf U_t_stepsTo U_t_reachOne U_t_isMarked U_t_markOf : Value} {t_at : Int32} {t_fault : Int32} {t_sort : Nat → Int32} {t_value : Nat → Int64} {p1 : Int32} {post : Int32 → Prop} (hret : ∀ (r : Int32) (pc : Nat) (lo : List (Option Value)), b01 r → post r → decode cX12_isSign pc = .ok (.ireturn, 1) → AW X 2 0 0 (w_X12_isSign (cxG X) A_t A_t_sort A_t_value U_t_thrown U_t_tape U_t_taped U_t_size U_t_place U_t_words U_t_towns U_t_op U_t_arg U_t_codes U_t_facts U_t_pile U_t_shadeDay U_t_sun U_t_isShut U_t_sunny U_t_cost U_t_leastCost U_t_leastEnd U_t_wayOf U_t_wayMany U_t_whereAt U_t_reach U_t_likely U_t_crowdAt U_t_crowdBy U_t_crowdRounds U_t_bestSquare U_t_bestBy U_t_spotsMany U_t_spotAt U_t_followed U_t_followOf U_t_toldMany U_t_toldOf U_t_stepsTo U_t_reachOne U_t_isMarked U_t_markOf t_at t_fault t_sort t_value) pl pc lo [.int r]) (hw : wp_X12_isSign t_at t_fault t_sort t_value p1 post) : AW X 2 0 0 (w_X12_isSign (cxG X) A_t A_t_sort A_t_value U_t_thrown U_t_tape U_t_taped U_t_size U_t_place U_t_words U_t_towns U_t_op U_t_arg U_t_codes U_t_facts U_t_pile U_t_shadeDay U_t_sun U_t_isShut U_t_sunny U_t_cost U_t_leastCost U_t_leastEnd U_t_wayOf U_t_wayMany U_t_whereAt U_t_reach U_t_likely U_t_crowdAt U_t_crowdBy U_t_crowdRounds U_t_bestSquare U_t_bestBy U_t_spotsMany U_t_spotAt U_t_followed U_t_followOf U_t_toldMany U_t_toldOf U_t_stepsTo U_t_reachOne U_t_isMarked U_t_markOf t_at t_fault t_sort t_value) pl 0 [some (.ref A_t), some (.int p1)] [] := by
  refine a_aload_n (pc := 0) (i := 0) C dX12_isSign_0 rfl rfl ?_
  refine a_get (pc := 1) C fl_X12_199 dX12_isSign_1 0 rfl rfl ?_
  refine a_if_ne (pc := 4) (tgt := 39) C dX12_isSign_4 (by decide) (fun c_4 => ?_) (fun c_4 => ?_)
  · replace hw := hw.1 c_4
    refine a_iconst (pc := 39) C dX12_isSign_39 kc_0 ?_
    exact hret _ _ _ (Or.inl rfl) hw dX12_isSign_40
  · replace hw := hw.2 c_4
    refine a_aload_n (pc := 7) (i := 0) C dX12_isSign_7 rfl rfl ?_
    refine a_get (pc := 8) C fl_X12_24 dX12_isSign_8 0 rfl rfl ?_
    refine a_aload_n (pc := 11) (i := 0) C dX12_isSign_11 rfl rfl ?_
    refine a_get (pc := 12) C fl_X12_196 dX12_isSign_12 0 rfl rfl ?_
    obtain ⟨i_15, hw⟩ := hw
    refine a_iald (pc := 15) C dX12_isSign_15 1 rfl i_15 ?_
    refine a_iconst (pc := 16) C dX12_isSign_16 kc_3 ?_
    refine a_icmp_ne (pc := 17) (tgt := 39) C dX12_isSign_17 (by decide) (fun c_17 => ?_) (fun c_17 => ?_)
    · replace hw := hw.1 c_17
      refine a_iconst (pc := 39) C dX12_isSign_39 kc_0 ?_
      exact hret _ _ _ (Or.inl rfl) hw dX12_isSign_40
    · replace hw := hw.2 c_17
      refine a_aload_n (pc := 20) (i := 0) C dX12_isSign_20 rfl rfl ?_
      refine a_get (pc := 21) C fl_X12_30 dX12_isSign_21 0 rfl rfl ?_
      refine a_aload_n (pc := 24) (i := 0) C dX12_isSign_24 rfl rfl ?_
      refine a_get (pc := 25) C fl_X12_196 dX12_isSign_25 0 rfl rfl ?_
      obtain ⟨i_28, hw⟩ := hw
      refine a_lald (pc := 28) C dX12_isSign_28 2 rfl i_28 ?_
      refine a_iload_n (pc := 29) (i := 1) C dX12_isSign_29 rfl rfl ?_
      refine a_i2l (pc := 30) C dX12_isSign_30 ?_
      refine a_lcmp (pc := 31) C dX12_isSign_31 ?_
      refine a_if_ne (pc := 32) (tgt := 39) C dX12_isSign_32 (by decide) (fun c_32 => ?_) (fun c_32 => ?_)
      · replace hw := hw.1 c_32
        refine a_iconst (pc := 39) C dX12_isSign_39 kc_0 ?_
        exact hret _ _ _ (Or.inl rfl) hw dX12_isSign_40
      · replace hw := hw.2 c_32
        refine a_iconst (pc := 35) C dX12_isSign_35 kc_1 ?_
        refine a_goto (pc := 36) (tgt := 40) C dX12_isSign_36 (by decide) ?_
        exact hret _ _ _ (Or.inr rfl) hw dX12_isSign_40
theorem c_X12_isSign {l : Launch} {g : GG} {pl : Pool} (A_t A_t_sort A_t_value : Nat) (U_t_thrown U_t_tape U_t_taped U_t_size U_t_place U_t_words U_t_towns U_t_op U_t_arg U_t_codes U_t_facts U_t_pile U_t_shadeDay U_t_sun U_t_isShut U_t_sunny U_t_cost U_t_leastCost U_t_leastEnd U_t_wayOf U_t_wayMany U_t_whereAt U_t_reach U_t_likely U_t_crowdAt U_t_crowdBy U_t_crowdRounds U_t_bestSquare U_t_bestBy U_t_spotsMany U_t_spotAt U_t_followed U_t_followOf U_t_toldMany U_t_toldOf U_t_stepsTo U_t_reachOne U_t_isMarked U_t_markOf : Value) {t_at : Int32} {t_fault : Int32} {t_sort : Nat → Int32} {t_value : Nat → Int64} {p1 : Int32} {post : Int32 → Prop} (hw : wp_X12_isSign t_at t_fault t_sort t_value p1 post) : MI l yX12_isSign cX12_isSign 2 (some .boolean) (rmL 0) g Fz0 [.ref A_t, .int p1] (w_X12_isSign g A_t A_t_sort A_t_value U_t_thrown U_t_tape U_t_taped U_t_size U_t_place U_t_words U_t_towns U_t_op U_t_arg U_t_codes U_t_facts U_t_pile U_t_shadeDay U_t_sun U_t_isShut U_t_sunny U_t_cost U_t_leastCost U_t_leastEnd U_t_wayOf U_t_wayMany U_t_whereAt U_t_reach U_t_likely U_t_crowdAt U_t_crowdBy U_t_crowdRounds U_t_bestSquare U_t_bestBy U_t_spotsMany U_t_spotAt U_t_followed U_t_followOf U_t_toldMany U_t_toldOf U_t_stepsTo U_t_reachOne U_t_isMarked U_t_markOf t_at t_fault t_sort t_value) pl (fun r (_ : Unit) => b01 r ∧ post r) (fun _ => (w_X12_isSign g A_t A_t_sort A_t_value U_t_thrown U_t_tape U_t_taped U_t_size U_t_place U_t_words U_t_towns U_t_op U_t_arg U_t_codes U_t_facts U_t_pile U_t_shadeDay U_t_sun U_t_isShut U_t_sunny U_t_cost U_t_leastCost U_t_leastEnd U_t_wayOf U_t_wayMany U_t_whereAt U_t_reach U_t_likely U_t_crowdAt U_t_crowdBy U_t_crowdRounds U_t_bestSquare U_t_bestBy U_t_spotsMany U_t_spotAt U_t_followed U_t_followOf U_t_toldMany U_t_toldOf U_t_stepsTo U_t_reachOne U_t_isMarked U_t_markOf t_at t_fault t_sort t_value)) (fun _ => pl) 0 0 := by
  refine mi_b01 ?_
  refine met_z (own := RX12) rfl rfl (Nat.le_of_ble_eq_true rfl) (fun X hg hl C hini hret => ?_)
  subst hg
  subst hl
  exact m_X12_isSign C (fun r pc lo z hp hd => hret r () pc lo (b01_nar z) hp hd) hw
abbrev w_X12_isWord (g : GG) (A_t A_t_sort A_t_value A_t_words : Nat) (U_t_thrown U_t_tape U_t_taped U_t_size U_t_place U_t_towns U_t_op U_t_arg U_t_codes U_t_facts U_t_pile U_t_shadeDay U_t_sun U_t_isShut U_t_sunny U_t_cost U_t_leastCost U_t_leastEnd U_t_wayOf U_t_wayMany U_t_whereAt U_t_reach U_t_likely U_t_crowdAt U_t_crowdBy U_t_crowdRounds U_t_bestSquare U_t_bestBy U_t_spotsMany U_t_spotAt U_t_followed U_t_followOf U_t_toldMany U_t_toldOf U_t_stepsTo U_t_reachOne U_t_isMarked U_t_markOf : Value) (t_at : Int32) (t_fault : Int32) (t_sort : Nat → Int32) (t_value : Nat → Int64) (t_words : Nat → Int64) : va_W := [(A_t, ob 12 [U_t_thrown, U_t_tape, U_t_taped, U_t_size, .ref A_t_sort, U_t_place, .ref A_t_value, .int t_at, .int t_fault, .ref A_t_words, U_t_towns, U_t_op, U_t_arg, U_t_codes, U_t_facts, U_t_pile, U_t_shadeDay, U_t_sun, U_t_isShut, U_t_sunny, U_t_cost, U_t_leastCost, U_t_leastEnd, U_t_wayOf, U_t_wayMany, U_t_whereAt, U_t_reach, U_t_likely, U_t_crowdAt, U_t_crowdBy, U_t_crowdRounds, U_t_bestSquare, U_t_bestBy, U_t_spotsMany, U_t_spotAt, U_t_followed, U_t_followOf, U_t_toldMany, U_t_toldOf, U_t_stepsTo, U_t_reachOne, U_t_isMarked, U_t_markOf]), (A_t_sort, aI g 1002 t_sort), (A_t_value, aJ g 1002 t_value), (A_t_words, aJ g 30 t_words)]
set_option maxRecDepth 20000 in
theorem m_X12_isWord {X : Ctx} (C : Cok X cX12_isWord 2 RX12 (rmL 0) Fz0) {pl : Pool} {A_t A_t_sort A_t_value A_t_words : Nat} {U_t_thrown U_t_tape U_t_taped U_t_size U_t_place U_t_towns U_t_op U_t_arg U_t_codes U_t_facts U_t_pile U_t_shadeDay U_t_sun U_t_isShut U_t_sunny U_t_cost U_t_leastCost U_t_leastEnd U_t_wayOf U_t_wayMany U_t_whereAt U_t_reach U_t_likely U_t_crowdAt U_t_crowdBy U_t_crowdRounds U_t_bestSquare U_t_bestBy U_t_spotsMany U_t_spotAt U_t_followed U_t_followOf U_t_toldMany U_t_toldOf U_t_stepsTo U_t_reachOne U_t_isMarked U_t_markOf : Value} {t_at : Int32} {t_fault : Int32} {t_sort : Nat → Int32} {t_value : Nat → Int64} {t_words : Nat → Int64} {p1 : Int32} {post : Int32 → Prop} (hret : ∀ (r : Int32) (pc : Nat) (lo : List (Option Value)), b01 r → post r → decode cX12_isWord pc = .ok (.ireturn, 1) → AW X 2 0 0 (w_X12_isWord (cxG X) A_t A_t_sort A_t_value A_t_words U_t_thrown U_t_tape U_t_taped U_t_size U_t_place U_t_towns U_t_op U_t_arg U_t_codes U_t_facts U_t_pile U_t_shadeDay U_t_sun U_t_isShut U_t_sunny U_t_cost U_t_leastCost U_t_leastEnd U_t_wayOf U_t_wayMany U_t_whereAt U_t_reach U_t_likely U_t_crowdAt U_t_crowdBy U_t_crowdRounds U_t_bestSquare U_t_bestBy U_t_spotsMany U_t_spotAt U_t_followed U_t_followOf U_t_toldMany U_t_toldOf U_t_stepsTo U_t_reachOne U_t_isMarked U_t_markOf t_at t_fault t_sort t_value t_words) pl pc lo [.int r]) (hw : wp_X12_isWord t_at t_fault t_sort t_value t_words p1 post) : AW X 2 0 0 (w_X12_isWord (cxG X) A_t A_t_sort A_t_value A_t_words U_t_thrown U_t_tape U_t_taped U_t_size U_t_place U_t_towns U_t_op U_t_arg U_t_codes U_t_facts U_t_pile U_t_shadeDay U_t_sun U_t_isShut U_t_sunny U_t_cost U_t_leastCost U_t_leastEnd U_t_wayOf U_t_wayMany U_t_whereAt U_t_reach U_t_likely U_t_crowdAt U_t_crowdBy U_t_crowdRounds U_t_bestSquare U_t_bestBy U_t_spotsMany U_t_spotAt U_t_followed U_t_followOf U_t_toldMany U_t_toldOf U_t_stepsTo U_t_reachOne U_t_isMarked U_t_markOf t_at t_fault t_sort t_value t_words) pl 0 [some (.ref A_t), some (.int p1)] [] := by
  refine a_aload_n (pc := 0) (i := 0) C dX12_isWord_0 rfl rfl ?_
  refine a_get (pc := 1) C fl_X12_199 dX12_isWord_1 0 rfl rfl ?_
  refine a_if_ne (pc := 4) (tgt := 43) C dX12_isWord_4 (by decide) (fun c_4 => ?_) (fun c_4 => ?_)
  · replace hw := hw.1 c_4
    refine a_iconst (pc := 43) C dX12_isWord_43 kc_0 ?_
    exact hret _ _ _ (Or.inl rfl) hw dX12_isWord_44
  · replace hw := hw.2 c_4
    refine a_aload_n (pc := 7) (i := 0) C dX12_isWord_7 rfl rfl ?_
    refine a_get (pc := 8) C fl_X12_24 dX12_isWord_8 0 rfl rfl ?_
    refine a_aload_n (pc := 11) (i := 0) C dX12_isWord_11 rfl rfl ?_
    refine a_get (pc := 12) C fl_X12_196 dX12_isWord_12 0 rfl rfl ?_
    obtain ⟨i_15, hw⟩ := hw
    refine a_iald (pc := 15) C dX12_isWord_15 1 rfl i_15 ?_
    refine a_iconst (pc := 16) C dX12_isWord_16 kc_1 ?_
    refine a_icmp_ne (pc := 17) (tgt := 43) C dX12_isWord_17 (by decide) (fun c_17 => ?_) (fun c_17 => ?_)
    · replace hw := hw.1 c_17
      refine a_iconst (pc := 43) C dX12_isWord_43 kc_0 ?_
      exact hret _ _ _ (Or.inl rfl) hw dX12_isWord_44
    · replace hw := hw.2 c_17
      refine a_aload_n (pc := 20) (i := 0) C dX12_isWord_20 rfl rfl ?_
      refine a_get (pc := 21) C fl_X12_30 dX12_isWord_21 0 rfl rfl ?_
      refine a_aload_n (pc := 24) (i := 0) C dX12_isWord_24 rfl rfl ?_
      refine a_get (pc := 25) C fl_X12_196 dX12_isWord_25 0 rfl rfl ?_
      obtain ⟨i_28, hw⟩ := hw
      refine a_lald (pc := 28) C dX12_isWord_28 2 rfl i_28 ?_
      refine a_aload_n (pc := 29) (i := 0) C dX12_isWord_29 rfl rfl ?_
      refine a_get (pc := 30) C fl_X12_94 dX12_isWord_30 0 rfl rfl ?_
      refine a_iload_n (pc := 33) (i := 1) C dX12_isWord_33 rfl rfl ?_
      obtain ⟨i_34, hw⟩ := hw
      refine a_lald (pc := 34) C dX12_isWord_34 3 rfl i_34 ?_
      refine a_lcmp (pc := 35) C dX12_isWord_35 ?_
      refine a_if_ne (pc := 36) (tgt := 43) C dX12_isWord_36 (by decide) (fun c_36 => ?_) (fun c_36 => ?_)
      · replace hw := hw.1 c_36
        refine a_iconst (pc := 43) C dX12_isWord_43 kc_0 ?_
        exact hret _ _ _ (Or.inl rfl) hw dX12_isWord_44
      · replace hw := hw.2 c_36
        refine a_iconst (pc := 39) C dX12_isWord_39 kc_1 ?_
        refine a_goto (pc := 40) (tgt := 44) C dX12_isWord_40 (by decide) ?_
        exact hret _ _ _ (Or.inr rfl) hw dX12_isWord_44
theorem c_X12_isWord {l : Launch} {g : GG} {pl : Pool} (A_t A_t_sort A_t_value A_t_words : Nat) (U_t_thrown U_t_tape U_t_taped U_t_size U_t_place U_t_towns U_t_op U_t_arg U_t_codes U_t_facts U_t_pile U_t_shadeDay U_t_sun U_t_isShut U_t_sunny U_t_cost U_t_leastCost U_t_leastEnd U_t_wayOf U_t_wayMany U_t_whereAt U_t_reach U_t_likely U_t_crowdAt U_t_crowdBy U_t_crowdRounds U_t_bestSquare U_t_bestBy U_t_spotsMany U_t_spotAt U_t_followed U_t_followOf U_t_toldMany U_t_toldOf U_t_stepsTo U_t_reachOne U_t_isMarked U_t_markOf : Value) {t_at : Int32} {t_fault : Int32} {t_sort : Nat → Int32} {t_value : Nat → Int64} {t_words : Nat → Int64} {p1 : Int32} {post : Int32 → Prop} (hw : wp_X12_isWord t_at t_fault t_sort t_value t_words p1 post) : MI l yX12_isWord cX12_isWord 2 (some .boolean) (rmL 0) g Fz0 [.ref A_t, .int p1] (w_X12_isWord g A_t A_t_sort A_t_value A_t_words U_t_thrown U_t_tape U_t_taped U_t_size U_t_place U_t_towns U_t_op U_t_arg U_t_codes U_t_facts U_t_pile U_t_shadeDay U_t_sun U_t_isShut U_t_sunny U_t_cost U_t_leastCost U_t_leastEnd U_t_wayOf U_t_wayMany U_t_whereAt U_t_reach U_t_likely U_t_crowdAt U_t_crowdBy U_t_crowdRounds U_t_bestSquare U_t_bestBy U_t_spotsMany U_t_spotAt U_t_followed U_t_followOf U_t_toldMany U_t_toldOf U_t_stepsTo U_t_reachOne U_t_isMarked U_t_markOf t_at t_fault t_sort t_value t_words) pl (fun r (_ : Unit) => b01 r ∧ post r) (fun _ => (w_X12_isWord g A_t A_t_sort A_t_value A_t_words U_t_thrown U_t_tape U_t_taped U_t_size U_t_place U_t_towns U_t_op U_t_arg U_t_codes U_t_facts U_t_pile U_t_shadeDay U_t_sun U_t_isShut U_t_sunny U_t_cost U_t_leastCost U_t_leastEnd U_t_wayOf U_t_wayMany U_t_whereAt U_t_reach U_t_likely U_t_crowdAt U_t_crowdBy U_t_crowdRounds U_t_bestSquare U_t_bestBy U_t_spotsMany U_t_spotAt U_t_followed U_t_followOf U_t_toldMany U_t_toldOf U_t_stepsTo U_t_reachOne U_t_isMarked U_t_markOf t_at t_fault t_sort t_value t_words)) (fun _ => pl) 0 0 := by
  refine mi_b01 ?_
  refine met_z (own := RX12) rfl rfl (Nat.le_of_ble_eq_true rfl) (fun X hg hl C hini hret => ?_)
  subst hg
  subst hl
  exact m_X12_isWord C (fun r pc lo z hp hd => hret r () pc lo (b01_nar z) hp hd) hw
abbrev w_X12_takeSign (g : GG) (A_t A_t_sort A_t_value A_t_place : Nat) (U_t_thrown U_t_tape U_t_taped U_t_size U_t_words U_t_towns U_t_op U_t_arg U_t_codes U_t_facts U_t_pile U_t_shadeDay U_t_sun U_t_isShut U_t_sunny U_t_cost U_t_leastCost U_t_leastEnd U_t_wayOf U_t_wayMany U_t_whereAt U_t_reach U_t_likely U_t_crowdAt U_t_crowdBy U_t_crowdRounds U_t_bestSquare U_t_bestBy U_t_spotsMany U_t_spotAt U_t_followed U_t_followOf U_t_toldMany U_t_toldOf U_t_stepsTo U_t_reachOne U_t_isMarked U_t_markOf : Value) (t_at : Int32) (t_fault : Int32) (t_sort : Nat → Int32) (t_value : Nat → Int64) (t_place : Nat → Int32) : va_W := [(A_t, ob 12 [U_t_thrown, U_t_tape, U_t_taped, U_t_size, .ref A_t_sort, .ref A_t_place, .ref A_t_value, .int t_at, .int t_fault, U_t_words, U_t_towns, U_t_op, U_t_arg, U_t_codes, U_t_facts, U_t_pile, U_t_shadeDay, U_t_sun, U_t_isShut, U_t_sunny, U_t_cost, U_t_leastCost, U_t_leastEnd, U_t_wayOf, U_t_wayMany, U_t_whereAt, U_t_reach, U_t_likely, U_t_crowdAt, U_t_crowdBy, U_t_crowdRounds, U_t_bestSquare, U_t_bestBy, U_t_spotsMany, U_t_spotAt, U_t_followed, U_t_followOf, U_t_toldMany, U_t_toldOf, U_t_stepsTo, U_t_reachOne, U_t_isMarked, U_t_markOf]), (A_t_sort, aI g 1002 t_sort), (A_t_value, aJ g 1002 t_value), (A_t_place, aI g 1002 t_place)]
set_option maxRecDepth 20000 in
theorem m_X12_takeSign {X : Ctx} (C : Cok X cX12_takeSign 2 RX12 (rmL 1) Fz0) {pl : Pool} {A_t A_t_sort A_t_value A_t_place : Nat} {U_t_thrown U_t_tape U_t_taped U_t_size U_t_words U_t_towns U_t_op U_t_arg U_t_codes U_t_facts U_t_pile U_t_shadeDay U_t_sun U_t_isShut U_t_sunny U_t_cost U_t_leastCost U_t_leastEnd U_t_wayOf U_t_wayMany U_t_whereAt U_t_reach U_t_likely U_t_crowdAt U_t_crowdBy U_t_crowdRounds U_t_bestSquare U_t_bestBy U_t_spotsMany U_t_spotAt U_t_followed U_t_followOf U_t_toldMany U_t_toldOf U_t_stepsTo U_t_reachOne U_t_isMarked U_t_markOf : Value} {t_sort : Nat → Int32} {t_value : Nat → Int64} {t_place : Nat → Int32} {t_at : Int32} {t_fault : Int32} {p1 : Int32} {post : Int32 → Int32 → Prop} (hret : ∀ (w0 : Int32) (w1 : Int32) (pc : Nat) (lo : List (Option Value)), post w0 w1 → decode cX12_takeSign pc = .ok (.return_, 1) → AW X 2 0 0 (w_X12_takeSign (cxG X) A_t A_t_sort A_t_value A_t_place U_t_thrown U_t_tape U_t_taped U_t_size U_t_words U_t_towns U_t_op U_t_arg U_t_codes U_t_facts U_t_pile U_t_shadeDay U_t_sun U_t_isShut U_t_sunny U_t_cost U_t_leastCost U_t_leastEnd U_t_wayOf U_t_wayMany U_t_whereAt U_t_reach U_t_likely U_t_crowdAt U_t_crowdBy U_t_crowdRounds U_t_bestSquare U_t_bestBy U_t_spotsMany U_t_spotAt U_t_followed U_t_followOf U_t_toldMany U_t_toldOf U_t_stepsTo U_t_reachOne U_t_isMarked U_t_markOf w0 w1 t_sort t_value t_place) pl pc lo []) (hw : wp_X12_takeSign t_sort t_value t_place t_at t_fault p1 post) : AW X 2 0 0 (w_X12_takeSign (cxG X) A_t A_t_sort A_t_value A_t_place U_t_thrown U_t_tape U_t_taped U_t_size U_t_words U_t_towns U_t_op U_t_arg U_t_codes U_t_facts U_t_pile U_t_shadeDay U_t_sun U_t_isShut U_t_sunny U_t_cost U_t_leastCost U_t_leastEnd U_t_wayOf U_t_wayMany U_t_whereAt U_t_reach U_t_likely U_t_crowdAt U_t_crowdBy U_t_crowdRounds U_t_bestSquare U_t_bestBy U_t_spotsMany U_t_spotAt U_t_followed U_t_followOf U_t_toldMany U_t_toldOf U_t_stepsTo U_t_reachOne U_t_isMarked U_t_markOf t_at t_fault t_sort t_value t_place) pl 0 [some (.ref A_t), some (.int p1)] [] := by
  replace hw : wp_X12_isSign t_at t_fault t_sort t_value p1 (fun r2 => (r2 = 0 → (wp_X12_wrong t_at t_place t_fault 1 (fun t_fault_23 => post t_at t_fault_23))) ∧ (¬ r2 = 0 → (∀ x15 : Int32, x15 = (t_at + 1) → (post x15 t_fault)))) := hw
  refine a_aload_n (pc := 0) (i := 0) C dX12_takeSign_0 rfl rfl ?_
  refine a_iload_n (pc := 1) (i := 1) C dX12_takeSign_1 rfl rfl ?_
  refine a_callVi (pc := 2) (As := [.int p1]) (st := []) (ws' := (fun _ => (w_X12_takeSign (cxG X) A_t A_t_sort A_t_value A_t_place U_t_thrown U_t_tape U_t_taped U_t_size U_t_words U_t_towns U_t_op U_t_arg U_t_codes U_t_facts U_t_pile U_t_shadeDay U_t_sun U_t_isShut U_t_sunny U_t_cost U_t_leastCost U_t_leastEnd U_t_wayOf U_t_wayMany U_t_whereAt U_t_reach U_t_likely U_t_crowdAt U_t_crowdBy U_t_crowdRounds U_t_bestSquare U_t_bestBy U_t_spotsMany U_t_spotAt U_t_followed U_t_followOf U_t_toldMany U_t_toldOf U_t_stepsTo U_t_reachOne U_t_isMarked U_t_markOf t_at t_fault t_sort t_value t_place))) C (c_X12_isSign A_t A_t_sort A_t_value U_t_thrown U_t_tape U_t_taped U_t_size (.ref A_t_place) U_t_words U_t_towns U_t_op U_t_arg U_t_codes U_t_facts U_t_pile U_t_shadeDay U_t_sun U_t_isShut U_t_sunny U_t_cost U_t_leastCost U_t_leastEnd U_t_wayOf U_t_wayMany U_t_whereAt U_t_reach U_t_likely U_t_crowdAt U_t_crowdBy U_t_crowdRounds U_t_bestSquare U_t_bestBy U_t_spotsMany U_t_spotAt U_t_followed U_t_followOf U_t_toldMany U_t_toldOf U_t_stepsTo U_t_reachOne U_t_isMarked U_t_markOf hw) dX12_takeSign_2 mth_X12_isSign tml_X12_202 (fun _ _ h => trivial) Fz0_ok (rml (by decide) (by decide)) (Nat.le_of_ble_eq_true rfl) rfl rfl [0, 1, 2] [3] [1, 2, 3, 0] rfl rfl rfl rfl rfl rfl (ci := 12) rfl ⟨0, _, rfl⟩ (fun _ => rfl) rfl (fun _ => rfl) (fun r2 u hw => ?_)
  obtain ⟨z_2, hw⟩ := hw
  show AW X 2 0 0 (w_X12_takeSign (cxG X) A_t A_t_sort A_t_value A_t_place U_t_thrown U_t_tape U_t_taped U_t_size U_t_words U_t_towns U_t_op U_t_arg U_t_codes U_t_facts U_t_pile U_t_shadeDay U_t_sun U_t_isShut U_t_sunny U_t_cost U_t_leastCost U_t_leastEnd U_t_wayOf U_t_wayMany U_t_whereAt U_t_reach U_t_likely U_t_crowdAt U_t_crowdBy U_t_crowdRounds U_t_bestSquare U_t_bestBy U_t_spotsMany U_t_spotAt U_t_followed U_t_followOf U_t_toldMany U_t_toldOf U_t_stepsTo U_t_reachOne U_t_isMarked U_t_markOf t_at t_fault t_sort t_value t_place) pl 5 [some (.ref A_t), some (.int p1)] [.int r2]
  refine a_if_eq (pc := 5) (tgt := 21) C dX12_takeSign_5 (by decide) (fun c_5 => ?_) (fun c_5 => ?_)
  · replace hw := hw.1 c_5
    refine a_aload_n (pc := 21) (i := 0) C dX12_takeSign_21 rfl rfl ?_
    refine a_iconst (pc := 22) C dX12_takeSign_22 kc_1 ?_
    refine a_callVv (pc := 23) (As := [.int 1]) (st := []) (ws' := (fun u => (w_X12_takeSign (cxG X) A_t A_t_sort A_t_value A_t_place U_t_thrown U_t_tape U_t_taped U_t_size U_t_words U_t_towns U_t_op U_t_arg U_t_codes U_t_facts U_t_pile U_t_shadeDay U_t_sun U_t_isShut U_t_sunny U_t_cost U_t_leastCost U_t_leastEnd U_t_wayOf U_t_wayMany U_t_whereAt U_t_reach U_t_likely U_t_crowdAt U_t_crowdBy U_t_crowdRounds U_t_bestSquare U_t_bestBy U_t_spotsMany U_t_spotAt U_t_followed U_t_followOf U_t_toldMany U_t_toldOf U_t_stepsTo U_t_reachOne U_t_isMarked U_t_markOf t_at u t_sort t_value t_place))) C (c_X12_wrong A_t A_t_place U_t_thrown U_t_tape U_t_taped U_t_size (.ref A_t_sort) (.ref A_t_value) U_t_words U_t_towns U_t_op U_t_arg U_t_codes U_t_facts U_t_pile U_t_shadeDay U_t_sun U_t_isShut U_t_sunny U_t_cost U_t_leastCost U_t_leastEnd U_t_wayOf U_t_wayMany U_t_whereAt U_t_reach U_t_likely U_t_crowdAt U_t_crowdBy U_t_crowdRounds U_t_bestSquare U_t_bestBy U_t_spotsMany U_t_spotAt U_t_followed U_t_followOf U_t_toldMany U_t_toldOf U_t_stepsTo U_t_reachOne U_t_isMarked U_t_markOf hw) dX12_takeSign_23 mth_X12_wrong tml_X12_205 (fun _ _ h => trivial) Fz0_ok (rml (by decide) (by decide)) (Nat.le_of_ble_eq_true rfl) rfl rfl [0, 3] [1, 2] [2, 0, 1, 3] rfl rfl rfl rfl rfl rfl (ci := 12) rfl ⟨0, _, rfl⟩ (fun _ => rfl) rfl (fun _ => rfl) (fun u hw => ?_)
    obtain ⟨t_fault_23, rfl⟩ : ∃ z, z = u := ⟨_, rfl⟩
    show AW X 2 0 0 (w_X12_takeSign (cxG X) A_t A_t_sort A_t_value A_t_place U_t_thrown U_t_tape U_t_taped U_t_size U_t_words U_t_towns U_t_op U_t_arg U_t_codes U_t_facts U_t_pile U_t_shadeDay U_t_sun U_t_isShut U_t_sunny U_t_cost U_t_leastCost U_t_leastEnd U_t_wayOf U_t_wayMany U_t_whereAt U_t_reach U_t_likely U_t_crowdAt U_t_crowdBy U_t_crowdRounds U_t_bestSquare U_t_bestBy U_t_spotsMany U_t_spotAt U_t_followed U_t_followOf U_t_toldMany U_t_toldOf U_t_stepsTo U_t_reachOne U_t_isMarked U_t_markOf t_at t_fault_23 t_sort t_value t_place) pl 26 [some (.ref A_t), some (.int p1)] []
    exact hret _ _ _ _ hw dX12_takeSign_26
  · replace hw := hw.2 c_5
    refine a_aload_n (pc := 8) (i := 0) C dX12_takeSign_8 rfl rfl ?_
    refine a_dup (pc := 9) C dX12_takeSign_9 rfl ?_
    refine a_get (pc := 10) C fl_X12_196 dX12_takeSign_10 0 rfl rfl ?_
    refine a_iconst (pc := 13) C dX12_takeSign_13 kc_1 ?_
    refine a_iadd (pc := 14) C dX12_takeSign_14 ?_
    refine a_topi (fun x15 e_x15 => ?_)
    replace hw := hw x15 e_x15
    refine a_putW (pc := 15) (ws' := (w_X12_takeSign (cxG X) A_t A_t_sort A_t_value A_t_place U_t_thrown U_t_tape U_t_taped U_t_size U_t_words U_t_towns U_t_op U_t_arg U_t_codes U_t_facts U_t_pile U_t_shadeDay U_t_sun U_t_isShut U_t_sunny U_t_cost U_t_leastCost U_t_leastEnd U_t_wayOf U_t_wayMany U_t_whereAt U_t_reach U_t_likely U_t_crowdAt U_t_crowdBy U_t_crowdRounds U_t_bestSquare U_t_bestBy U_t_spotsMany U_t_spotAt U_t_followed U_t_followOf U_t_toldMany U_t_toldOf U_t_stepsTo U_t_reachOne U_t_isMarked U_t_markOf x15 t_fault t_sort t_value t_place)) C fl_X12_196 pu_12_7 dX12_takeSign_15 0 rfl rfl rfl (Nat.le_of_ble_eq_true rfl) rfl ?_
    refine a_goto (pc := 18) (tgt := 26) C dX12_takeSign_18 (by decide) ?_
    exact hret _ _ _ _ hw dX12_takeSign_26
theorem c_X12_takeSign {l : Launch} {g : GG} {pl : Pool} (A_t A_t_sort A_t_value A_t_place : Nat) (U_t_thrown U_t_tape U_t_taped U_t_size U_t_words U_t_towns U_t_op U_t_arg U_t_codes U_t_facts U_t_pile U_t_shadeDay U_t_sun U_t_isShut U_t_sunny U_t_cost U_t_leastCost U_t_leastEnd U_t_wayOf U_t_wayMany U_t_whereAt U_t_reach U_t_likely U_t_crowdAt U_t_crowdBy U_t_crowdRounds U_t_bestSquare U_t_bestBy U_t_spotsMany U_t_spotAt U_t_followed U_t_followOf U_t_toldMany U_t_toldOf U_t_stepsTo U_t_reachOne U_t_isMarked U_t_markOf : Value) {t_sort : Nat → Int32} {t_value : Nat → Int64} {t_place : Nat → Int32} {t_at : Int32} {t_fault : Int32} {p1 : Int32} {post : Int32 → Int32 → Prop} (hw : wp_X12_takeSign t_sort t_value t_place t_at t_fault p1 post) : MV l yX12_takeSign cX12_takeSign 2 (none : Option Jvm.ClassFile.FieldType) (rmL 1) g Fz0 [.ref A_t, .int p1] (w_X12_takeSign g A_t A_t_sort A_t_value A_t_place U_t_thrown U_t_tape U_t_taped U_t_size U_t_words U_t_towns U_t_op U_t_arg U_t_codes U_t_facts U_t_pile U_t_shadeDay U_t_sun U_t_isShut U_t_sunny U_t_cost U_t_leastCost U_t_leastEnd U_t_wayOf U_t_wayMany U_t_whereAt U_t_reach U_t_likely U_t_crowdAt U_t_crowdBy U_t_crowdRounds U_t_bestSquare U_t_bestBy U_t_spotsMany U_t_spotAt U_t_followed U_t_followOf U_t_toldMany U_t_toldOf U_t_stepsTo U_t_reachOne U_t_isMarked U_t_markOf t_at t_fault t_sort t_value t_place) pl (fun (u : Int32 × Int32) => post u.1 u.2) (fun u => (w_X12_takeSign g A_t A_t_sort A_t_value A_t_place U_t_thrown U_t_tape U_t_taped U_t_size U_t_words U_t_towns U_t_op U_t_arg U_t_codes U_t_facts U_t_pile U_t_shadeDay U_t_sun U_t_isShut U_t_sunny U_t_cost U_t_leastCost U_t_leastEnd U_t_wayOf U_t_wayMany U_t_whereAt U_t_reach U_t_likely U_t_crowdAt U_t_crowdBy U_t_crowdRounds U_t_bestSquare U_t_bestBy U_t_spotsMany U_t_spotAt U_t_followed U_t_followOf U_t_toldMany U_t_toldOf U_t_stepsTo U_t_reachOne U_t_isMarked U_t_markOf u.1 u.2 t_sort t_value t_place)) (fun _ => pl) 0 0 := by
  refine met_v (own := RX12) rfl rfl (Nat.le_of_ble_eq_true rfl) (fun X hg hl C hini hret => ?_)
  subst hg
  subst hl
  exact m_X12_takeSign C (fun w0 w1 pc lo hp hd => hret (w0, w1) pc lo hp hd) hw
abbrev w_X12_hasSign (g : GG) (A_t A_t_sort A_t_value : Nat) (U_t_thrown U_t_tape U_t_taped U_t_size U_t_place U_t_words U_t_towns U_t_op U_t_arg U_t_codes U_t_facts U_t_pile U_t_shadeDay U_t_sun U_t_isShut U_t_sunny U_t_cost U_t_leastCost U_t_leastEnd U_t_wayOf U_t_wayMany U_t_whereAt U_t_reach U_t_likely U_t_crowdAt U_t_crowdBy U_t_crowdRounds U_t_bestSquare U_t_bestBy U_t_spotsMany U_t_spotAt U_t_followed U_t_followOf U_t_toldMany U_t_toldOf U_t_stepsTo U_t_reachOne U_t_isMarked U_t_markOf : Value) (t_at : Int32) (t_fault : Int32) (t_sort : Nat → Int32) (t_value : Nat → Int64) : va_W := [(A_t, ob 12 [U_t_thrown, U_t_tape, U_t_taped, U_t_size, .ref A_t_sort, U_t_place, .ref A_t_value, .int t_at, .int t_fault, U_t_words, U_t_towns, U_t_op, U_t_arg, U_t_codes, U_t_facts, U_t_pile, U_t_shadeDay, U_t_sun, U_t_isShut, U_t_sunny, U_t_cost, U_t_leastCost, U_t_leastEnd, U_t_wayOf, U_t_wayMany, U_t_whereAt, U_t_reach, U_t_likely, U_t_crowdAt, U_t_crowdBy, U_t_crowdRounds, U_t_bestSquare, U_t_bestBy, U_t_spotsMany, U_t_spotAt, U_t_followed, U_t_followOf, U_t_toldMany, U_t_toldOf, U_t_stepsTo, U_t_reachOne, U_t_isMarked, U_t_markOf]), (A_t_sort, aI g 1002 t_sort), (A_t_value, aJ g 1002 t_value)]
set_option maxRecDepth 20000 in
theorem m_X12_hasSign {X : Ctx} (C : Cok X cX12_hasSign 3 RX12 (rmL 1) Fz0) {pl : Pool} {A_t A_t_sort A_t_value : Nat} {U_t_thrown U_t_tape U_t_taped U_t_size U_t_place U_t_words U_t_towns U_t_op U_t_arg U_t_codes U_t_facts U_t_pile U_t_shadeDay U_t_sun U_t_isShut U_t_sunny U_t_cost U_t_leastCost U_t_leastEnd U_t_wayOf U_t_wayMany U_t_whereAt U_t_reach U_t_likely U_t_crowdAt U_t_crowdBy U_t_crowdRounds U_t_bestSquare U_t_bestBy U_t_spotsMany U_t_spotAt U_t_followed U_t_followOf U_t_toldMany U_t_toldOf U_t_stepsTo U_t_reachOne U_t_isMarked U_t_markOf : Value} {t_fault : Int32} {t_sort : Nat → Int32} {t_value : Nat → Int64} {t_at : Int32} {p1 : Int32} {post : Int32 → Int32 → Prop} (hret : ∀ (r : Int32) (w0 : Int32) (pc : Nat) (lo : List (Option Value)), b01 r → post r w0 → decode cX12_hasSign pc = .ok (.ireturn, 1) → AW X 3 0 0 (w_X12_hasSign (cxG X) A_t A_t_sort A_t_value U_t_thrown U_t_tape U_t_taped U_t_size U_t_place U_t_words U_t_towns U_t_op U_t_arg U_t_codes U_t_facts U_t_pile U_t_shadeDay U_t_sun U_t_isShut U_t_sunny U_t_cost U_t_leastCost U_t_leastEnd U_t_wayOf U_t_wayMany U_t_whereAt U_t_reach U_t_likely U_t_crowdAt U_t_crowdBy U_t_crowdRounds U_t_bestSquare U_t_bestBy U_t_spotsMany U_t_spotAt U_t_followed U_t_followOf U_t_toldMany U_t_toldOf U_t_stepsTo U_t_reachOne U_t_isMarked U_t_markOf w0 t_fault t_sort t_value) pl pc lo [.int r]) (hw : wp_X12_hasSign t_fault t_sort t_value t_at p1 post) : AW X 3 0 0 (w_X12_hasSign (cxG X) A_t A_t_sort A_t_value U_t_thrown U_t_tape U_t_taped U_t_size U_t_place U_t_words U_t_towns U_t_op U_t_arg U_t_codes U_t_facts U_t_pile U_t_shadeDay U_t_sun U_t_isShut U_t_sunny U_t_cost U_t_leastCost U_t_leastEnd U_t_wayOf U_t_wayMany U_t_whereAt U_t_reach U_t_likely U_t_crowdAt U_t_crowdBy U_t_crowdRounds U_t_bestSquare U_t_bestBy U_t_spotsMany U_t_spotAt U_t_followed U_t_followOf U_t_toldMany U_t_toldOf U_t_stepsTo U_t_reachOne U_t_isMarked U_t_markOf t_at t_fault t_sort t_value) pl 0 [some (.ref A_t), some (.int p1), none] [] := by
  replace hw : wp_X12_isSign t_at t_fault t_sort t_value p1 (fun r2 => (r2 = 0 → (∀ x21 : Int32, x21 = (t_at + 0) → (b01 r2 ∧ (post r2 x21)))) ∧ (¬ r2 = 0 → (∀ x21 : Int32, x21 = (t_at + 1) → (b01 r2 ∧ (post r2 x21))))) := hw
  refine a_aload_n (pc := 0) (i := 0) C dX12_hasSign_0 rfl rfl ?_
  refine a_iload_n (pc := 1) (i := 1) C dX12_hasSign_1 rfl rfl ?_
  refine a_callVi (pc := 2) (As := [.int p1]) (st := []) (ws' := (fun _ => (w_X12_hasSign (cxG X) A_t A_t_sort A_t_value U_t_thrown U_t_tape U_t_taped U_t_size U_t_place U_t_words U_t_towns U_t_op U_t_arg U_t_codes U_t_facts U_t_pile U_t_shadeDay U_t_sun U_t_isShut U_t_sunny U_t_cost U_t_leastCost U_t_leastEnd U_t_wayOf U_t_wayMany U_t_whereAt U_t_reach U_t_likely U_t_crowdAt U_t_crowdBy U_t_crowdRounds U_t_bestSquare U_t_bestBy U_t_spotsMany U_t_spotAt U_t_followed U_t_followOf U_t_toldMany U_t_toldOf U_t_stepsTo U_t_reachOne U_t_isMarked U_t_markOf t_at t_fault t_sort t_value))) C (c_X12_isSign A_t A_t_sort A_t_value U_t_thrown U_t_tape U_t_taped U_t_size U_t_place U_t_words U_t_towns U_t_op U_t_arg U_t_codes U_t_facts U_t_pile U_t_shadeDay U_t_sun U_t_isShut U_t_sunny U_t_cost U_t_leastCost U_t_leastEnd U_t_wayOf U_t_wayMany U_t_whereAt U_t_reach U_t_likely U_t_crowdAt U_t_crowdBy U_t_crowdRounds U_t_bestSquare U_t_bestBy U_t_spotsMany U_t_spotAt U_t_followed U_t_followOf U_t_toldMany U_t_toldOf U_t_stepsTo U_t_reachOne U_t_isMarked U_t_markOf hw) dX12_hasSign_2 mth_X12_isSign tml_X12_202 (fun _ _ h => trivial) Fz0_ok (rml (by decide) (by decide)) (Nat.le_of_ble_eq_true rfl) rfl rfl [0, 1, 2] [] [0, 1, 2] rfl rfl rfl rfl rfl rfl (ci := 12) rfl ⟨0, _, rfl⟩ (fun _ => rfl) rfl (fun _ => rfl) (fun r2 u hw => ?_)
  obtain ⟨z_2, hw⟩ := hw
  show AW X 3 0 0 (w_X12_hasSign (cxG X) A_t A_t_sort A_t_value U_t_thrown U_t_tape U_t_taped U_t_size U_t_place U_t_words U_t_towns U_t_op U_t_arg U_t_codes U_t_facts U_t_pile U_t_shadeDay U_t_sun U_t_isShut U_t_sunny U_t_cost U_t_leastCost U_t_leastEnd U_t_wayOf U_t_wayMany U_t_whereAt U_t_reach U_t_likely U_t_crowdAt U_t_crowdBy U_t_crowdRounds U_t_bestSquare U_t_bestBy U_t_spotsMany U_t_spotAt U_t_followed U_t_followOf U_t_toldMany U_t_toldOf U_t_stepsTo U_t_reachOne U_t_isMarked U_t_markOf t_at t_fault t_sort t_value) pl 5 [some (.ref A_t), some (.int p1), none] [.int r2]
  refine s_istore_n (pc := 5) (i := 2) (lo' := [some (.ref A_t), some (.int p1), some (.int r2)]) C dX12_hasSign_5 rfl (by decide) rfl rfl ?_
  refine a_aload_n (pc := 6) (i := 0) C dX12_hasSign_6 rfl rfl ?_
  refine a_dup (pc := 7) C dX12_hasSign_7 rfl ?_
  refine a_get (pc := 8) C fl_X12_196 dX12_hasSign_8 0 rfl rfl ?_
  refine a_iload_n (pc := 11) (i := 2) C dX12_hasSign_11 rfl rfl ?_
  refine a_if_eq (pc := 12) (tgt := 19) C dX12_hasSign_12 (by decide) (fun c_12 => ?_) (fun c_12 => ?_)
  · replace hw := hw.1 c_12
    refine a_iconst (pc := 19) C dX12_hasSign_19 kc_0 ?_
    refine a_iadd (pc := 20) C dX12_hasSign_20 ?_
    refine a_topi (fun x21 e_x21 => ?_)
    replace hw := hw x21 e_x21
    refine a_putW (pc := 21) (ws' := (w_X12_hasSign (cxG X) A_t A_t_sort A_t_value U_t_thrown U_t_tape U_t_taped U_t_size U_t_place U_t_words U_t_towns U_t_op U_t_arg U_t_codes U_t_facts U_t_pile U_t_shadeDay U_t_sun U_t_isShut U_t_sunny U_t_cost U_t_leastCost U_t_leastEnd U_t_wayOf U_t_wayMany U_t_whereAt U_t_reach U_t_likely U_t_crowdAt U_t_crowdBy U_t_crowdRounds U_t_bestSquare U_t_bestBy U_t_spotsMany U_t_spotAt U_t_followed U_t_followOf U_t_toldMany U_t_toldOf U_t_stepsTo U_t_reachOne U_t_isMarked U_t_markOf x21 t_fault t_sort t_value)) C fl_X12_196 pu_12_7 dX12_hasSign_21 0 rfl rfl rfl (Nat.le_of_ble_eq_true rfl) rfl ?_
    refine a_iload_n (pc := 24) (i := 2) C dX12_hasSign_24 rfl rfl ?_
    obtain ⟨z_25, hw⟩ := hw
    exact hret _ _ _ _ z_25 hw dX12_hasSign_25
  · replace hw := hw.2 c_12
    refine a_iconst (pc := 15) C dX12_hasSign_15 kc_1 ?_
    refine a_goto (pc := 16) (tgt := 20) C dX12_hasSign_16 (by decide) ?_
    refine a_iadd (pc := 20) C dX12_hasSign_20 ?_
    refine a_topi (fun x21 e_x21 => ?_)
    replace hw := hw x21 e_x21
    refine a_putW (pc := 21) (ws' := (w_X12_hasSign (cxG X) A_t A_t_sort A_t_value U_t_thrown U_t_tape U_t_taped U_t_size U_t_place U_t_words U_t_towns U_t_op U_t_arg U_t_codes U_t_facts U_t_pile U_t_shadeDay U_t_sun U_t_isShut U_t_sunny U_t_cost U_t_leastCost U_t_leastEnd U_t_wayOf U_t_wayMany U_t_whereAt U_t_reach U_t_likely U_t_crowdAt U_t_crowdBy U_t_crowdRounds U_t_bestSquare U_t_bestBy U_t_spotsMany U_t_spotAt U_t_followed U_t_followOf U_t_toldMany U_t_toldOf U_t_stepsTo U_t_reachOne U_t_isMarked U_t_markOf x21 t_fault t_sort t_value)) C fl_X12_196 pu_12_7 dX12_hasSign_21 0 rfl rfl rfl (Nat.le_of_ble_eq_true rfl) rfl ?_
    refine a_iload_n (pc := 24) (i := 2) C dX12_hasSign_24 rfl rfl ?_
    obtain ⟨z_25, hw⟩ := hw
    exact hret _ _ _ _ z_25 hw dX12_hasSign_25
theorem c_X12_hasSign {l : Launch} {g : GG} {pl : Pool} (A_t A_t_sort A_t_value : Nat) (U_t_thrown U_t_tape U_t_taped U_t_size U_t_place U_t_words U_t_towns U_t_op U_t_arg U_t_codes U_t_facts U_t_pile U_t_shadeDay U_t_sun U_t_isShut U_t_sunny U_t_cost U_t_leastCost U_t_leastEnd U_t_wayOf U_t_wayMany U_t_whereAt U_t_reach U_t_likely U_t_crowdAt U_t_crowdBy U_t_crowdRounds U_t_bestSquare U_t_bestBy U_t_spotsMany U_t_spotAt U_t_followed U_t_followOf U_t_toldMany U_t_toldOf U_t_stepsTo U_t_reachOne U_t_isMarked U_t_markOf : Value) {t_fault : Int32} {t_sort : Nat → Int32} {t_value : Nat → Int64} {t_at : Int32} {p1 : Int32} {post : Int32 → Int32 → Prop} (hw : wp_X12_hasSign t_fault t_sort t_value t_at p1 post) : MI l yX12_hasSign cX12_hasSign 3 (some .boolean) (rmL 1) g Fz0 [.ref A_t, .int p1] (w_X12_hasSign g A_t A_t_sort A_t_value U_t_thrown U_t_tape U_t_taped U_t_size U_t_place U_t_words U_t_towns U_t_op U_t_arg U_t_codes U_t_facts U_t_pile U_t_shadeDay U_t_sun U_t_isShut U_t_sunny U_t_cost U_t_leastCost U_t_leastEnd U_t_wayOf U_t_wayMany U_t_whereAt U_t_reach U_t_likely U_t_crowdAt U_t_crowdBy U_t_crowdRounds U_t_bestSquare U_t_bestBy U_t_spotsMany U_t_spotAt U_t_followed U_t_followOf U_t_toldMany U_t_toldOf U_t_stepsTo U_t_reachOne U_t_isMarked U_t_markOf t_at t_fault t_sort t_value) pl (fun r (u : Int32) => b01 r ∧ post r u) (fun u => (w_X12_hasSign g A_t A_t_sort A_t_value U_t_thrown U_t_tape U_t_taped U_t_size U_t_place U_t_words U_t_towns U_t_op U_t_arg U_t_codes U_t_facts U_t_pile U_t_shadeDay U_t_sun U_t_isShut U_t_sunny U_t_cost U_t_leastCost U_t_leastEnd U_t_wayOf U_t_wayMany U_t_whereAt U_t_reach U_t_likely U_t_crowdAt U_t_crowdBy U_t_crowdRounds U_t_bestSquare U_t_bestBy U_t_spotsMany U_t_spotAt U_t_followed U_t_followOf U_t_toldMany U_t_toldOf U_t_stepsTo U_t_reachOne U_t_isMarked U_t_markOf u t_fault t_sort t_value)) (fun _ => pl) 0 0 := by
  refine mi_b01 ?_
  refine met_z (own := RX12) rfl rfl (Nat.le_of_ble_eq_true rfl) (fun X hg hl C hini hret => ?_)
  subst hg
  subst hl
  exact m_X12_hasSign C (fun r w0 pc lo z hp hd => hret r w0 pc lo (b01_nar z) hp hd) hw
abbrev w_X12_hasWord (g : GG) (A_t A_t_sort A_t_value A_t_words : Nat) (U_t_thrown U_t_tape U_t_taped U_t_size U_t_place U_t_towns U_t_op U_t_arg U_t_codes U_t_facts U_t_pile U_t_shadeDay U_t_sun U_t_isShut U_t_sunny U_t_cost U_t_leastCost U_t_leastEnd U_t_wayOf U_t_wayMany U_t_whereAt U_t_reach U_t_likely U_t_crowdAt U_t_crowdBy U_t_crowdRounds U_t_bestSquare U_t_bestBy U_t_spotsMany U_t_spotAt U_t_followed U_t_followOf U_t_toldMany U_t_toldOf U_t_stepsTo U_t_reachOne U_t_isMarked U_t_markOf : Value) (t_at : Int32) (t_fault : Int32) (t_sort : Nat → Int32) (t_value : Nat → Int64) (t_words : Nat → Int64) : va_W := [(A_t, ob 12 [U_t_thrown, U_t_tape, U_t_taped, U_t_size, .ref A_t_sort, U_t_place, .ref A_t_value, .int t_at, .int t_fault, .ref A_t_words, U_t_towns, U_t_op, U_t_arg, U_t_codes, U_t_facts, U_t_pile, U_t_shadeDay, U_t_sun, U_t_isShut, U_t_sunny, U_t_cost, U_t_leastCost, U_t_leastEnd, U_t_wayOf, U_t_wayMany, U_t_whereAt, U_t_reach, U_t_likely, U_t_crowdAt, U_t_crowdBy, U_t_crowdRounds, U_t_bestSquare, U_t_bestBy, U_t_spotsMany, U_t_spotAt, U_t_followed, U_t_followOf, U_t_toldMany, U_t_toldOf, U_t_stepsTo, U_t_reachOne, U_t_isMarked, U_t_markOf]), (A_t_sort, aI g 1002 t_sort), (A_t_value, aJ g 1002 t_value), (A_t_words, aJ g 30 t_words)]
set_option maxRecDepth 20000 in
theorem m_X12_hasWord {X : Ctx} (C : Cok X cX12_hasWord 3 RX12 (rmL 1) Fz0) {pl : Pool} {A_t A_t_sort A_t_value A_t_words : Nat} {U_t_thrown U_t_tape U_t_taped U_t_size U_t_place U_t_towns U_t_op U_t_arg U_t_codes U_t_facts U_t_pile U_t_shadeDay U_t_sun U_t_isShut U_t_sunny U_t_cost U_t_leastCost U_t_leastEnd U_t_wayOf U_t_wayMany U_t_whereAt U_t_reach U_t_likely U_t_crowdAt U_t_crowdBy U_t_crowdRounds U_t_bestSquare U_t_bestBy U_t_spotsMany U_t_spotAt U_t_followed U_t_followOf U_t_toldMany U_t_toldOf U_t_stepsTo U_t_reachOne U_t_isMarked U_t_markOf : Value} {t_fault : Int32} {t_sort : Nat → Int32} {t_value : Nat → Int64} {t_words : Nat → Int64} {t_at : Int32} {p1 : Int32} {post : Int32 → Int32 → Prop} (hret : ∀ (r : Int32) (w0 : Int32) (pc : Nat) (lo : List (Option Value)), b01 r → post r w0 → decode cX12_hasWord pc = .ok (.ireturn, 1) → AW X 3 0 0 (w_X12_hasWord (cxG X) A_t A_t_sort A_t_value A_t_words U_t_thrown U_t_tape U_t_taped U_t_size U_t_place U_t_towns U_t_op U_t_arg U_t_codes U_t_facts U_t_pile U_t_shadeDay U_t_sun U_t_isShut U_t_sunny U_t_cost U_t_leastCost U_t_leastEnd U_t_wayOf U_t_wayMany U_t_whereAt U_t_reach U_t_likely U_t_crowdAt U_t_crowdBy U_t_crowdRounds U_t_bestSquare U_t_bestBy U_t_spotsMany U_t_spotAt U_t_followed U_t_followOf U_t_toldMany U_t_toldOf U_t_stepsTo U_t_reachOne U_t_isMarked U_t_markOf w0 t_fault t_sort t_value t_words) pl pc lo [.int r]) (hw : wp_X12_hasWord t_fault t_sort t_value t_words t_at p1 post) : AW X 3 0 0 (w_X12_hasWord (cxG X) A_t A_t_sort A_t_value A_t_words U_t_thrown U_t_tape U_t_taped U_t_size U_t_place U_t_towns U_t_op U_t_arg U_t_codes U_t_facts U_t_pile U_t_shadeDay U_t_sun U_t_isShut U_t_sunny U_t_cost U_t_leastCost U_t_leastEnd U_t_wayOf U_t_wayMany U_t_whereAt U_t_reach U_t_likely U_t_crowdAt U_t_crowdBy U_t_crowdRounds U_t_bestSquare U_t_bestBy U_t_spotsMany U_t_spotAt U_t_followed U_t_followOf U_t_toldMany U_t_toldOf U_t_stepsTo U_t_reachOne U_t_isMarked U_t_markOf t_at t_fault t_sort t_value t_words) pl 0 [some (.ref A_t), some (.int p1), none] [] := by
  replace hw : wp_X12_isWord t_at t_fault t_sort t_value t_words p1 (fun r2 => (r2 = 0 → (∀ x21 : Int32, x21 = (t_at + 0) → (b01 r2 ∧ (post r2 x21)))) ∧ (¬ r2 = 0 → (∀ x21 : Int32, x21 = (t_at + 1) → (b01 r2 ∧ (post r2 x21))))) := hw
  refine a_aload_n (pc := 0) (i := 0) C dX12_hasWord_0 rfl rfl ?_
  refine a_iload_n (pc := 1) (i := 1) C dX12_hasWord_1 rfl rfl ?_
  refine a_callVi (pc := 2) (As := [.int p1]) (st := []) (ws' := (fun _ => (w_X12_hasWord (cxG X) A_t A_t_sort A_t_value A_t_words U_t_thrown U_t_tape U_t_taped U_t_size U_t_place U_t_towns U_t_op U_t_arg U_t_codes U_t_facts U_t_pile U_t_shadeDay U_t_sun U_t_isShut U_t_sunny U_t_cost U_t_leastCost U_t_leastEnd U_t_wayOf U_t_wayMany U_t_whereAt U_t_reach U_t_likely U_t_crowdAt U_t_crowdBy U_t_crowdRounds U_t_bestSquare U_t_bestBy U_t_spotsMany U_t_spotAt U_t_followed U_t_followOf U_t_toldMany U_t_toldOf U_t_stepsTo U_t_reachOne U_t_isMarked U_t_markOf t_at t_fault t_sort t_value t_words))) C (c_X12_isWord A_t A_t_sort A_t_value A_t_words U_t_thrown U_t_tape U_t_taped U_t_size U_t_place U_t_towns U_t_op U_t_arg U_t_codes U_t_facts U_t_pile U_t_shadeDay U_t_sun U_t_isShut U_t_sunny U_t_cost U_t_leastCost U_t_leastEnd U_t_wayOf U_t_wayMany U_t_whereAt U_t_reach U_t_likely U_t_crowdAt U_t_crowdBy U_t_crowdRounds U_t_bestSquare U_t_bestBy U_t_spotsMany U_t_spotAt U_t_followed U_t_followOf U_t_toldMany U_t_toldOf U_t_stepsTo U_t_reachOne U_t_isMarked U_t_markOf hw) dX12_hasWord_2 mth_X12_isWord tml_X12_209 (fun _ _ h => trivial) Fz0_ok (rml (by decide) (by decide)) (Nat.le_of_ble_eq_true rfl) rfl rfl [0, 1, 2, 3] [] [0, 1, 2, 3] rfl rfl rfl rfl rfl rfl (ci := 12) rfl ⟨0, _, rfl⟩ (fun _ => rfl) rfl (fun _ => rfl) (fun r2 u hw => ?_)
  obtain ⟨z_2, hw⟩ := hw
  show AW X 3 0 0 (w_X12_hasWord (cxG X) A_t A_t_sort A_t_value A_t_words U_t_thrown U_t_tape U_t_taped U_t_size U_t_place U_t_towns U_t_op U_t_arg U_t_codes U_t_facts U_t_pile U_t_shadeDay U_t_sun U_t_isShut U_t_sunny U_t_cost U_t_leastCost U_t_leastEnd U_t_wayOf U_t_wayMany U_t_whereAt U_t_reach U_t_likely U_t_crowdAt U_t_crowdBy U_t_crowdRounds U_t_bestSquare U_t_bestBy U_t_spotsMany U_t_spotAt U_t_followed U_t_followOf U_t_toldMany U_t_toldOf U_t_stepsTo U_t_reachOne U_t_isMarked U_t_markOf t_at t_fault t_sort t_value t_words) pl 5 [some (.ref A_t), some (.int p1), none] [.int r2]
  refine s_istore_n (pc := 5) (i := 2) (lo' := [some (.ref A_t), some (.int p1), some (.int r2)]) C dX12_hasWord_5 rfl (by decide) rfl rfl ?_
  refine a_aload_n (pc := 6) (i := 0) C dX12_hasWord_6 rfl rfl ?_
  refine a_dup (pc := 7) C dX12_hasWord_7 rfl ?_
  refine a_get (pc := 8) C fl_X12_196 dX12_hasWord_8 0 rfl rfl ?_
  refine a_iload_n (pc := 11) (i := 2) C dX12_hasWord_11 rfl rfl ?_
  refine a_if_eq (pc := 12) (tgt := 19) C dX12_hasWord_12 (by decide) (fun c_12 => ?_) (fun c_12 => ?_)
  · replace hw := hw.1 c_12
    refine a_iconst (pc := 19) C dX12_hasWord_19 kc_0 ?_
    refine a_iadd (pc := 20) C dX12_hasWord_20 ?_
    refine a_topi (fun x21 e_x21 => ?_)
    replace hw := hw x21 e_x21
    refine a_putW (pc := 21) (ws' := (w_X12_hasWord (cxG X) A_t A_t_sort A_t_value A_t_words U_t_thrown U_t_tape U_t_taped U_t_size U_t_place U_t_towns U_t_op U_t_arg U_t_codes U_t_facts U_t_pile U_t_shadeDay U_t_sun U_t_isShut U_t_sunny U_t_cost U_t_leastCost U_t_leastEnd U_t_wayOf U_t_wayMany U_t_whereAt U_t_reach U_t_likely U_t_crowdAt U_t_crowdBy U_t_crowdRounds U_t_bestSquare U_t_bestBy U_t_spotsMany U_t_spotAt U_t_followed U_t_followOf U_t_toldMany U_t_toldOf U_t_stepsTo U_t_reachOne U_t_isMarked U_t_markOf x21 t_fault t_sort t_value t_words)) C fl_X12_196 pu_12_7 dX12_hasWord_21 0 rfl rfl rfl (Nat.le_of_ble_eq_true rfl) rfl ?_
    refine a_iload_n (pc := 24) (i := 2) C dX12_hasWord_24 rfl rfl ?_
    obtain ⟨z_25, hw⟩ := hw
    exact hret _ _ _ _ z_25 hw dX12_hasWord_25
  · replace hw := hw.2 c_12
    refine a_iconst (pc := 15) C dX12_hasWord_15 kc_1 ?_
    refine a_goto (pc := 16) (tgt := 20) C dX12_hasWord_16 (by decide) ?_
    refine a_iadd (pc := 20) C dX12_hasWord_20 ?_
    refine a_topi (fun x21 e_x21 => ?_)
    replace hw := hw x21 e_x21
    refine a_putW (pc := 21) (ws' := (w_X12_hasWord (cxG X) A_t A_t_sort A_t_value A_t_words U_t_thrown U_t_tape U_t_taped U_t_size U_t_place U_t_towns U_t_op U_t_arg U_t_codes U_t_facts U_t_pile U_t_shadeDay U_t_sun U_t_isShut U_t_sunny U_t_cost U_t_leastCost U_t_leastEnd U_t_wayOf U_t_wayMany U_t_whereAt U_t_reach U_t_likely U_t_crowdAt U_t_crowdBy U_t_crowdRounds U_t_bestSquare U_t_bestBy U_t_spotsMany U_t_spotAt U_t_followed U_t_followOf U_t_toldMany U_t_toldOf U_t_stepsTo U_t_reachOne U_t_isMarked U_t_markOf x21 t_fault t_sort t_value t_words)) C fl_X12_196 pu_12_7 dX12_hasWord_21 0 rfl rfl rfl (Nat.le_of_ble_eq_true rfl) rfl ?_
    refine a_iload_n (pc := 24) (i := 2) C dX12_hasWord_24 rfl rfl ?_
    obtain ⟨z_25, hw⟩ := hw
    exact hret _ _ _ _ z_25 hw dX12_hasWord_25
theorem c_X12_hasWord {l : Launch} {g : GG} {pl : Pool} (A_t A_t_sort A_t_value A_t_words : Nat) (U_t_thrown U_t_tape U_t_taped U_t_size U_t_place U_t_towns U_t_op U_t_arg U_t_codes U_t_facts U_t_pile U_t_shadeDay U_t_sun U_t_isShut U_t_sunny U_t_cost U_t_leastCost U_t_leastEnd U_t_wayOf U_t_wayMany U_t_whereAt U_t_reach U_t_likely U_t_crowdAt U_t_crowdBy U_t_crowdRounds U_t_bestSquare U_t_bestBy U_t_spotsMany U_t_spotAt U_t_followed U_t_followOf U_t_toldMany U_t_toldOf U_t_stepsTo U_t_reachOne U_t_isMarked U_t_markOf : Value) {t_fault : Int32} {t_sort : Nat → Int32} {t_value : Nat → Int64} {t_words : Nat → Int64} {t_at : Int32} {p1 : Int32} {post : Int32 → Int32 → Prop} (hw : wp_X12_hasWord t_fault t_sort t_value t_words t_at p1 post) : MI l yX12_hasWord cX12_hasWord 3 (some .boolean) (rmL 1) g Fz0 [.ref A_t, .int p1] (w_X12_hasWord g A_t A_t_sort A_t_value A_t_words U_t_thrown U_t_tape U_t_taped U_t_size U_t_place U_t_towns U_t_op U_t_arg U_t_codes U_t_facts U_t_pile U_t_shadeDay U_t_sun U_t_isShut U_t_sunny U_t_cost U_t_leastCost U_t_leastEnd U_t_wayOf U_t_wayMany U_t_whereAt U_t_reach U_t_likely U_t_crowdAt U_t_crowdBy U_t_crowdRounds U_t_bestSquare U_t_bestBy U_t_spotsMany U_t_spotAt U_t_followed U_t_followOf U_t_toldMany U_t_toldOf U_t_stepsTo U_t_reachOne U_t_isMarked U_t_markOf t_at t_fault t_sort t_value t_words) pl (fun r (u : Int32) => b01 r ∧ post r u) (fun u => (w_X12_hasWord g A_t A_t_sort A_t_value A_t_words U_t_thrown U_t_tape U_t_taped U_t_size U_t_place U_t_towns U_t_op U_t_arg U_t_codes U_t_facts U_t_pile U_t_shadeDay U_t_sun U_t_isShut U_t_sunny U_t_cost U_t_leastCost U_t_leastEnd U_t_wayOf U_t_wayMany U_t_whereAt U_t_reach U_t_likely U_t_crowdAt U_t_crowdBy U_t_crowdRounds U_t_bestSquare U_t_bestBy U_t_spotsMany U_t_spotAt U_t_followed U_t_followOf U_t_toldMany U_t_toldOf U_t_stepsTo U_t_reachOne U_t_isMarked U_t_markOf u t_fault t_sort t_value t_words)) (fun _ => pl) 0 0 := by
  refine mi_b01 ?_
  refine met_z (own := RX12) rfl rfl (Nat.le_of_ble_eq_true rfl) (fun X hg hl C hini hret => ?_)
  subst hg
  subst hl
  exact m_X12_hasWord C (fun r w0 pc lo z hp hd => hret r w0 pc lo (b01_nar z) hp hd) hw
abbrev w_X12_takeWord (g : GG) (A_t A_t_sort A_t_value A_t_words A_t_place : Nat) (U_t_thrown U_t_tape U_t_taped U_t_size U_t_towns U_t_op U_t_arg U_t_codes U_t_facts U_t_pile U_t_shadeDay U_t_sun U_t_isShut U_t_sunny U_t_cost U_t_leastCost U_t_leastEnd U_t_wayOf U_t_wayMany U_t_whereAt U_t_reach U_t_likely U_t_crowdAt U_t_crowdBy U_t_crowdRounds U_t_bestSquare U_t_bestBy U_t_spotsMany U_t_spotAt U_t_followed U_t_followOf U_t_toldMany U_t_toldOf U_t_stepsTo U_t_reachOne U_t_isMarked U_t_markOf : Value) (t_at : Int32) (t_fault : Int32) (t_sort : Nat → Int32) (t_value : Nat → Int64) (t_words : Nat → Int64) (t_place : Nat → Int32) : va_W := [(A_t, ob 12 [U_t_thrown, U_t_tape, U_t_taped, U_t_size, .ref A_t_sort, .ref A_t_place, .ref A_t_value, .int t_at, .int t_fault, .ref A_t_words, U_t_towns, U_t_op, U_t_arg, U_t_codes, U_t_facts, U_t_pile, U_t_shadeDay, U_t_sun, U_t_isShut, U_t_sunny, U_t_cost, U_t_leastCost, U_t_leastEnd, U_t_wayOf, U_t_wayMany, U_t_whereAt, U_t_reach, U_t_likely, U_t_crowdAt, U_t_crowdBy, U_t_crowdRounds, U_t_bestSquare, U_t_bestBy, U_t_spotsMany, U_t_spotAt, U_t_followed, U_t_followOf, U_t_toldMany, U_t_toldOf, U_t_stepsTo, U_t_reachOne, U_t_isMarked, U_t_markOf]), (A_t_sort, aI g 1002 t_sort), (A_t_value, aJ g 1002 t_value), (A_t_words, aJ g 30 t_words), (A_t_place, aI g 1002 t_place)]
set_option maxRecDepth 20000 in
theorem m_X12_takeWord {X : Ctx} (C : Cok X cX12_takeWord 2 RX12 (rmL 2) Fz0) {pl : Pool} {A_t A_t_sort A_t_value A_t_words A_t_place : Nat} {U_t_thrown U_t_tape U_t_taped U_t_size U_t_towns U_t_op U_t_arg U_t_codes U_t_facts U_t_pile U_t_shadeDay U_t_sun U_t_isShut U_t_sunny U_t_cost U_t_leastCost U_t_leastEnd U_t_wayOf U_t_wayMany U_t_whereAt U_t_reach U_t_likely U_t_crowdAt U_t_crowdBy U_t_crowdRounds U_t_bestSquare U_t_bestBy U_t_spotsMany U_t_spotAt U_t_followed U_t_followOf U_t_toldMany U_t_toldOf U_t_stepsTo U_t_reachOne U_t_isMarked U_t_markOf : Value} {t_sort : Nat → Int32} {t_value : Nat → Int64} {t_words : Nat → Int64} {t_place : Nat → Int32} {t_at : Int32} {t_fault : Int32} {p1 : Int32} {post : Int32 → Int32 → Prop} (hret : ∀ (w0 : Int32) (w1 : Int32) (pc : Nat) (lo : List (Option Value)), post w0 w1 → decode cX12_takeWord pc = .ok (.return_, 1) → AW X 2 0 0 (w_X12_takeWord (cxG X) A_t A_t_sort A_t_value A_t_words A_t_place U_t_thrown U_t_tape U_t_taped U_t_size U_t_towns U_t_op U_t_arg U_t_codes U_t_facts U_t_pile U_t_shadeDay U_t_sun U_t_isShut U_t_sunny U_t_cost U_t_leastCost U_t_leastEnd U_t_wayOf U_t_wayMany U_t_whereAt U_t_reach U_t_likely U_t_crowdAt U_t_crowdBy U_t_crowdRounds U_t_bestSquare U_t_bestBy U_t_spotsMany U_t_spotAt U_t_followed U_t_followOf U_t_toldMany U_t_toldOf U_t_stepsTo U_t_reachOne U_t_isMarked U_t_markOf w0 w1 t_sort t_value t_words t_place) pl pc lo []) (hw : wp_X12_takeWord t_sort t_value t_words t_place t_at t_fault p1 post) : AW X 2 0 0 (w_X12_takeWord (cxG X) A_t A_t_sort A_t_value A_t_words A_t_place U_t_thrown U_t_tape U_t_taped U_t_size U_t_towns U_t_op U_t_arg U_t_codes U_t_facts U_t_pile U_t_shadeDay U_t_sun U_t_isShut U_t_sunny U_t_cost U_t_leastCost U_t_leastEnd U_t_wayOf U_t_wayMany U_t_whereAt U_t_reach U_t_likely U_t_crowdAt U_t_crowdBy U_t_crowdRounds U_t_bestSquare U_t_bestBy U_t_spotsMany U_t_spotAt U_t_followed U_t_followOf U_t_toldMany U_t_toldOf U_t_stepsTo U_t_reachOne U_t_isMarked U_t_markOf t_at t_fault t_sort t_value t_words t_place) pl 0 [some (.ref A_t), some (.int p1)] [] := by
  replace hw : wp_X12_hasWord t_fault t_sort t_value t_words t_at p1 (fun r2 t_at_2 => (¬ r2 = 0 → (post t_at_2 t_fault)) ∧ (r2 = 0 → (wp_X12_wrong t_at_2 t_place t_fault 1 (fun t_fault_10 => post t_at_2 t_fault_10)))) := hw
  refine a_aload_n (pc := 0) (i := 0) C dX12_takeWord_0 rfl rfl ?_
  refine a_iload_n (pc := 1) (i := 1) C dX12_takeWord_1 rfl rfl ?_
  refine a_callVi (pc := 2) (As := [.int p1]) (st := []) (ws' := (fun u => (w_X12_takeWord (cxG X) A_t A_t_sort A_t_value A_t_words A_t_place U_t_thrown U_t_tape U_t_taped U_t_size U_t_towns U_t_op U_t_arg U_t_codes U_t_facts U_t_pile U_t_shadeDay U_t_sun U_t_isShut U_t_sunny U_t_cost U_t_leastCost U_t_leastEnd U_t_wayOf U_t_wayMany U_t_whereAt U_t_reach U_t_likely U_t_crowdAt U_t_crowdBy U_t_crowdRounds U_t_bestSquare U_t_bestBy U_t_spotsMany U_t_spotAt U_t_followed U_t_followOf U_t_toldMany U_t_toldOf U_t_stepsTo U_t_reachOne U_t_isMarked U_t_markOf u t_fault t_sort t_value t_words t_place))) C (c_X12_hasWord A_t A_t_sort A_t_value A_t_words U_t_thrown U_t_tape U_t_taped U_t_size (.ref A_t_place) U_t_towns U_t_op U_t_arg U_t_codes U_t_facts U_t_pile U_t_shadeDay U_t_sun U_t_isShut U_t_sunny U_t_cost U_t_leastCost U_t_leastEnd U_t_wayOf U_t_wayMany U_t_whereAt U_t_reach U_t_likely U_t_crowdAt U_t_crowdBy U_t_crowdRounds U_t_bestSquare U_t_bestBy U_t_spotsMany U_t_spotAt U_t_followed U_t_followOf U_t_toldMany U_t_toldOf U_t_stepsTo U_t_reachOne U_t_isMarked U_t_markOf hw) dX12_takeWord_2 mth_X12_hasWord tml_X12_212 (fun _ _ h => trivial) Fz0_ok (rml (by decide) (by decide)) (Nat.le_of_ble_eq_true rfl) rfl rfl [0, 1, 2, 3] [4] [1, 2, 3, 4, 0] rfl rfl rfl rfl rfl rfl (ci := 12) rfl ⟨0, _, rfl⟩ (fun _ => rfl) rfl (fun _ => rfl) (fun r2 u hw => ?_)
  obtain ⟨z_2, hw⟩ := hw
  obtain ⟨t_at_2, rfl⟩ : ∃ z, z = u := ⟨_, rfl⟩
  show AW X 2 0 0 (w_X12_takeWord (cxG X) A_t A_t_sort A_t_value A_t_words A_t_place U_t_thrown U_t_tape U_t_taped U_t_size U_t_towns U_t_op U_t_arg U_t_codes U_t_facts U_t_pile U_t_shadeDay U_t_sun U_t_isShut U_t_sunny U_t_cost U_t_leastCost U_t_leastEnd U_t_wayOf U_t_wayMany U_t_whereAt U_t_reach U_t_likely U_t_crowdAt U_t_crowdBy U_t_crowdRounds U_t_bestSquare U_t_bestBy U_t_spotsMany U_t_spotAt U_t_followed U_t_followOf U_t_toldMany U_t_toldOf U_t_stepsTo U_t_reachOne U_t_isMarked U_t_markOf t_at_2 t_fault t_sort t_value t_words t_place) pl 5 [some (.ref A_t), some (.int p1)] [.int r2]
  refine a_if_ne (pc := 5) (tgt := 13) C dX12_takeWord_5 (by decide) (fun c_5 => ?_) (fun c_5 => ?_)
  · replace hw := hw.1 c_5
    exact hret _ _ _ _ hw dX12_takeWord_13
  · replace hw := hw.2 c_5
    refine a_aload_n (pc := 8) (i := 0) C dX12_takeWord_8 rfl rfl ?_
    refine a_iconst (pc := 9) C dX12_takeWord_9 kc_1 ?_
    refine a_callVv (pc := 10) (As := [.int 1]) (st := []) (ws' := (fun u => (w_X12_takeWord (cxG X) A_t A_t_sort A_t_value A_t_words A_t_place U_t_thrown U_t_tape U_t_taped U_t_size U_t_towns U_t_op U_t_arg U_t_codes U_t_facts U_t_pile U_t_shadeDay U_t_sun U_t_isShut U_t_sunny U_t_cost U_t_leastCost U_t_leastEnd U_t_wayOf U_t_wayMany U_t_whereAt U_t_reach U_t_likely U_t_crowdAt U_t_crowdBy U_t_crowdRounds U_t_bestSquare U_t_bestBy U_t_spotsMany U_t_spotAt U_t_followed U_t_followOf U_t_toldMany U_t_toldOf U_t_stepsTo U_t_reachOne U_t_isMarked U_t_markOf t_at_2 u t_sort t_value t_words t_place))) C (c_X12_wrong A_t A_t_place U_t_thrown U_t_tape U_t_taped U_t_size (.ref A_t_sort) (.ref A_t_value) (.ref A_t_words) U_t_towns U_t_op U_t_arg U_t_codes U_t_facts U_t_pile U_t_shadeDay U_t_sun U_t_isShut U_t_sunny U_t_cost U_t_leastCost U_t_leastEnd U_t_wayOf U_t_wayMany U_t_whereAt U_t_reach U_t_likely U_t_crowdAt U_t_crowdBy U_t_crowdRounds U_t_bestSquare U_t_bestBy U_t_spotsMany U_t_spotAt U_t_followed U_t_followOf U_t_toldMany U_t_toldOf U_t_stepsTo U_t_reachOne U_t_isMarked U_t_markOf hw) dX12_takeWord_10 mth_X12_wrong tml_X12_205 (fun _ _ h => trivial) Fz0_ok (rml (by decide) (by decide)) (Nat.le_of_ble_eq_true rfl) rfl rfl [0, 4] [1, 2, 3] [3, 0, 1, 2, 4] rfl rfl rfl rfl rfl rfl (ci := 12) rfl ⟨0, _, rfl⟩ (fun _ => rfl) rfl (fun _ => rfl) (fun u hw => ?_)
    obtain ⟨t_fault_10, rfl⟩ : ∃ z, z = u := ⟨_, rfl⟩
    show AW X 2 0 0 (w_X12_takeWord (cxG X) A_t A_t_sort A_t_value A_t_words A_t_place U_t_thrown U_t_tape U_t_taped U_t_size U_t_towns U_t_op U_t_arg U_t_codes U_t_facts U_t_pile U_t_shadeDay U_t_sun U_t_isShut U_t_sunny U_t_cost U_t_leastCost U_t_leastEnd U_t_wayOf U_t_wayMany U_t_whereAt U_t_reach U_t_likely U_t_crowdAt U_t_crowdBy U_t_crowdRounds U_t_bestSquare U_t_bestBy U_t_spotsMany U_t_spotAt U_t_followed U_t_followOf U_t_toldMany U_t_toldOf U_t_stepsTo U_t_reachOne U_t_isMarked U_t_markOf t_at_2 t_fault_10 t_sort t_value t_words t_place) pl 13 [some (.ref A_t), some (.int p1)] []
    exact hret _ _ _ _ hw dX12_takeWord_13
theorem c_X12_takeWord {l : Launch} {g : GG} {pl : Pool} (A_t A_t_sort A_t_value A_t_words A_t_place : Nat) (U_t_thrown U_t_tape U_t_taped U_t_size U_t_towns U_t_op U_t_arg U_t_codes U_t_facts U_t_pile U_t_shadeDay U_t_sun U_t_isShut U_t_sunny U_t_cost U_t_leastCost U_t_leastEnd U_t_wayOf U_t_wayMany U_t_whereAt U_t_reach U_t_likely U_t_crowdAt U_t_crowdBy U_t_crowdRounds U_t_bestSquare U_t_bestBy U_t_spotsMany U_t_spotAt U_t_followed U_t_followOf U_t_toldMany U_t_toldOf U_t_stepsTo U_t_reachOne U_t_isMarked U_t_markOf : Value) {t_sort : Nat → Int32} {t_value : Nat → Int64} {t_words : Nat → Int64} {t_place : Nat → Int32} {t_at : Int32} {t_fault : Int32} {p1 : Int32} {post : Int32 → Int32 → Prop} (hw : wp_X12_takeWord t_sort t_value t_words t_place t_at t_fault p1 post) : MV l yX12_takeWord cX12_takeWord 2 (none : Option Jvm.ClassFile.FieldType) (rmL 2) g Fz0 [.ref A_t, .int p1] (w_X12_takeWord g A_t A_t_sort A_t_value A_t_words A_t_place U_t_thrown U_t_tape U_t_taped U_t_size U_t_towns U_t_op U_t_arg U_t_codes U_t_facts U_t_pile U_t_shadeDay U_t_sun U_t_isShut U_t_sunny U_t_cost U_t_leastCost U_t_leastEnd U_t_wayOf U_t_wayMany U_t_whereAt U_t_reach U_t_likely U_t_crowdAt U_t_crowdBy U_t_crowdRounds U_t_bestSquare U_t_bestBy U_t_spotsMany U_t_spotAt U_t_followed U_t_followOf U_t_toldMany U_t_toldOf U_t_stepsTo U_t_reachOne U_t_isMarked U_t_markOf t_at t_fault t_sort t_value t_words t_place) pl (fun (u : Int32 × Int32) => post u.1 u.2) (fun u => (w_X12_takeWord g A_t A_t_sort A_t_value A_t_words A_t_place U_t_thrown U_t_tape U_t_taped U_t_size U_t_towns U_t_op U_t_arg U_t_codes U_t_facts U_t_pile U_t_shadeDay U_t_sun U_t_isShut U_t_sunny U_t_cost U_t_leastCost U_t_leastEnd U_t_wayOf U_t_wayMany U_t_whereAt U_t_reach U_t_likely U_t_crowdAt U_t_crowdBy U_t_crowdRounds U_t_bestSquare U_t_bestBy U_t_spotsMany U_t_spotAt U_t_followed U_t_followOf U_t_toldMany U_t_toldOf U_t_stepsTo U_t_reachOne U_t_isMarked U_t_markOf u.1 u.2 t_sort t_value t_words t_place)) (fun _ => pl) 0 0 := by
  refine met_v (own := RX12) rfl rfl (Nat.le_of_ble_eq_true rfl) (fun X hg hl C hini hret => ?_)
  subst hg
  subst hl
  exact m_X12_takeWord C (fun w0 w1 pc lo hp hd => hret (w0, w1) pc lo hp hd) hw
abbrev w_X12_within (g : GG) : va_W := []
set_option maxRecDepth 20000 in
theorem m_X12_within {X : Ctx} (C : Cok X cX12_within 3 RX12 (rmL 0) Fz0) {pl : Pool} {p0 : Int32} {p1 : Int32} {p2 : Int32} {post : Int32 → Prop} (hret : ∀ (r : Int32) (pc : Nat) (lo : List (Option Value)), b01 r → post r → decode cX12_within pc = .ok (.ireturn, 1) → AW X 3 0 0 (w_X12_within (cxG X)) pl pc lo [.int r]) (hw : wp_X12_within p0 p1 p2 post) : AW X 3 0 0 (w_X12_within (cxG X)) pl 0 [some (.int p0), some (.int p1), some (.int p2)] [] := by
  refine a_iload_n (pc := 0) (i := 0) C dX12_within_0 rfl rfl ?_
  refine a_iload_n (pc := 1) (i := 1) C dX12_within_1 rfl rfl ?_
  refine a_icmp_lt (pc := 2) (tgt := 14) C dX12_within_2 (by decide) (fun c_2 => ?_) (fun c_2 => ?_)
  · replace hw := hw.1 c_2
    refine a_iconst (pc := 14) C dX12_within_14 kc_0 ?_
    exact hret _ _ _ (Or.inl rfl) hw dX12_within_15
  · replace hw := hw.2 c_2
    refine a_iload_n (pc := 5) (i := 0) C dX12_within_5 rfl rfl ?_
    refine a_iload_n (pc := 6) (i := 2) C dX12_within_6 rfl rfl ?_
    refine a_icmp_gt (pc := 7) (tgt := 14) C dX12_within_7 (by decide) (fun c_7 => ?_) (fun c_7 => ?_)
    · replace hw := hw.1 c_7
      refine a_iconst (pc := 14) C dX12_within_14 kc_0 ?_
      exact hret _ _ _ (Or.inl rfl) hw dX12_within_15
    · replace hw := hw.2 c_7
      refine a_iconst (pc := 10) C dX12_within_10 kc_1 ?_
      refine a_goto (pc := 11) (tgt := 15) C dX12_within_11 (by decide) ?_
      exact hret _ _ _ (Or.inr rfl) hw dX12_within_15
theorem c_X12_within {l : Launch} {g : GG} {pl : Pool} {p0 : Int32} {p1 : Int32} {p2 : Int32} {post : Int32 → Prop} (hw : wp_X12_within p0 p1 p2 post) : MI l yX12_within cX12_within 3 (some .boolean) (rmL 0) g Fz0 [.int p0, .int p1, .int p2] (w_X12_within g) pl (fun r (_ : Unit) => b01 r ∧ post r) (fun _ => (w_X12_within g)) (fun _ => pl) 0 0 := by
  refine mi_b01 ?_
  refine met_z (own := RX12) rfl rfl (Nat.le_of_ble_eq_true rfl) (fun X hg hl C hini hret => ?_)
  subst hg
  subst hl
  exact m_X12_within C (fun r pc lo z hp hd => hret r () pc lo (b01_nar z) hp hd) hw
abbrev w_X12_takeNumber (g : GG) (A_t A_t_value A_t_place A_t_sort : Nat) (U_t_thrown U_t_tape U_t_taped U_t_size U_t_words U_t_towns U_t_op U_t_arg U_t_codes U_t_facts U_t_pile U_t_shadeDay U_t_sun U_t_isShut U_t_sunny U_t_cost U_t_leastCost U_t_leastEnd U_t_wayOf U_t_wayMany U_t_whereAt U_t_reach U_t_likely U_t_crowdAt U_t_crowdBy U_t_crowdRounds U_t_bestSquare U_t_bestBy U_t_spotsMany U_t_spotAt U_t_followed U_t_followOf U_t_toldMany U_t_toldOf U_t_stepsTo U_t_reachOne U_t_isMarked U_t_markOf : Value) (t_at : Int32) (t_fault : Int32) (t_value : Nat → Int64) (t_place : Nat → Int32) (t_sort : Nat → Int32) : va_W := [(A_t, ob 12 [U_t_thrown, U_t_tape, U_t_taped, U_t_size, .ref A_t_sort, .ref A_t_place, .ref A_t_value, .int t_at, .int t_fault, U_t_words, U_t_towns, U_t_op, U_t_arg, U_t_codes, U_t_facts, U_t_pile, U_t_shadeDay, U_t_sun, U_t_isShut, U_t_sunny, U_t_cost, U_t_leastCost, U_t_leastEnd, U_t_wayOf, U_t_wayMany, U_t_whereAt, U_t_reach, U_t_likely, U_t_crowdAt, U_t_crowdBy, U_t_crowdRounds, U_t_bestSquare, U_t_bestBy, U_t_spotsMany, U_t_spotAt, U_t_followed, U_t_followOf, U_t_toldMany, U_t_toldOf, U_t_stepsTo, U_t_reachOne, U_t_isMarked, U_t_markOf]), (A_t_value, aJ g 1002 t_value), (A_t_place, aI g 1002 t_place), (A_t_sort, aI g 1002 t_sort)]
set_option maxRecDepth 20000 in
theorem m_X12_takeNumber_b70 {X : Ctx} (C : Cok X cX12_takeNumber 3 RX12 (rmL 1) Fz0) {pl : Pool} {A_t A_t_value A_t_place A_t_sort : Nat} {U_t_thrown U_t_tape U_t_taped U_t_size U_t_words U_t_towns U_t_op U_t_arg U_t_codes U_t_facts U_t_pile U_t_shadeDay U_t_sun U_t_isShut U_t_sunny U_t_cost U_t_leastCost U_t_leastEnd U_t_wayOf U_t_wayMany U_t_whereAt U_t_reach U_t_likely U_t_crowdAt U_t_crowdBy U_t_crowdRounds U_t_bestSquare U_t_bestBy U_t_spotsMany U_t_spotAt U_t_followed U_t_followOf U_t_toldMany U_t_toldOf U_t_stepsTo U_t_reachOne U_t_isMarked U_t_markOf : Value} {t_value : Nat → Int64} {t_place : Nat → Int32} {t_sort : Nat → Int32} {post : Int32 → Int32 → Int32 → Prop} (hret : ∀ (r : Int32) (w0 : Int32) (w1 : Int32) (pc : Nat) (lo : List (Option Value)), post r w0 w1 → decode cX12_takeNumber pc = .ok (.ireturn, 1) → AW X 3 0 0 (w_X12_takeNumber (cxG X) A_t A_t_value A_t_place A_t_sort U_t_thrown U_t_tape U_t_taped U_t_size U_t_words U_t_towns U_t_op U_t_arg U_t_codes U_t_facts U_t_pile U_t_shadeDay U_t_sun U_t_isShut U_t_sunny U_t_cost U_t_leastCost U_t_leastEnd U_t_wayOf U_t_wayMany U_t_whereAt U_t_reach U_t_likely U_t_crowdAt U_t_crowdBy U_t_crowdRounds U_t_bestSquare U_t_bestBy U_t_spotsMany U_t_spotAt U_t_followed U_t_followOf U_t_toldMany U_t_toldOf U_t_stepsTo U_t_reachOne U_t_isMarked U_t_markOf w0 w1 t_value t_place t_sort) pl pc lo [.int r]) {t_at : Int32} {t_fault : Int32} (hw : wp_X12_takeNumber_b70  t_value t_place t_sort post t_at t_fault) : AW X 3 0 0 (w_X12_takeNumber (cxG X) A_t A_t_value A_t_place A_t_sort U_t_thrown U_t_tape U_t_taped U_t_size U_t_words U_t_towns U_t_op U_t_arg U_t_codes U_t_facts U_t_pile U_t_shadeDay U_t_sun U_t_isShut U_t_sunny U_t_cost U_t_leastCost U_t_leastEnd U_t_wayOf U_t_wayMany U_t_whereAt U_t_reach U_t_likely U_t_crowdAt U_t_crowdBy U_t_crowdRounds U_t_bestSquare U_t_bestBy U_t_spotsMany U_t_spotAt U_t_followed U_t_followOf U_t_toldMany U_t_toldOf U_t_stepsTo U_t_reachOne U_t_isMarked U_t_markOf t_at t_fault t_value t_place t_sort) pl 70 [some (.ref A_t), none, none] [] := by
  refine a_aload_n (pc := 70) (i := 0) C dX12_takeNumber_70 rfl rfl ?_
  refine a_get (pc := 71) C fl_X12_199 dX12_takeNumber_71 0 rfl rfl ?_
  refine a_if_le (pc := 74) (tgt := 79) C dX12_takeNumber_74 (by decide) (fun c_74 => ?_) (fun c_74 => ?_)
  · replace hw := hw.1 c_74
    refine a_aload_n (pc := 79) (i := 0) C dX12_takeNumber_79 rfl rfl ?_
    refine a_dup (pc := 80) C dX12_takeNumber_80 rfl ?_
    refine a_get (pc := 81) C fl_X12_196 dX12_takeNumber_81 0 rfl rfl ?_
    refine a_iconst (pc := 84) C dX12_takeNumber_84 kc_1 ?_
    refine a_iadd (pc := 85) C dX12_takeNumber_85 ?_
    refine a_topi (fun x86 e_x86 => ?_)
    replace hw := hw x86 e_x86
    refine a_putW (pc := 86) (ws' := (w_X12_takeNumber (cxG X) A_t A_t_value A_t_place A_t_sort U_t_thrown U_t_tape U_t_taped U_t_size U_t_words U_t_towns U_t_op U_t_arg U_t_codes U_t_facts U_t_pile U_t_shadeDay U_t_sun U_t_isShut U_t_sunny U_t_cost U_t_leastCost U_t_leastEnd U_t_wayOf U_t_wayMany U_t_whereAt U_t_reach U_t_likely U_t_crowdAt U_t_crowdBy U_t_crowdRounds U_t_bestSquare U_t_bestBy U_t_spotsMany U_t_spotAt U_t_followed U_t_followOf U_t_toldMany U_t_toldOf U_t_stepsTo U_t_reachOne U_t_isMarked U_t_markOf x86 t_fault t_value t_place t_sort)) C fl_X12_196 pu_12_7 dX12_takeNumber_86 0 rfl rfl rfl (Nat.le_of_ble_eq_true rfl) rfl ?_
    refine a_aload_n (pc := 89) (i := 0) C dX12_takeNumber_89 rfl rfl ?_
    refine a_get (pc := 90) C fl_X12_30 dX12_takeNumber_90 0 rfl rfl ?_
    refine a_aload_n (pc := 93) (i := 0) C dX12_takeNumber_93 rfl rfl ?_
    refine a_get (pc := 94) C fl_X12_196 dX12_takeNumber_94 0 rfl rfl ?_
    refine a_iconst (pc := 97) C dX12_takeNumber_97 kc_1 ?_
    refine a_isub (pc := 98) C dX12_takeNumber_98 ?_
    refine a_topi (fun x99 e_x99 => ?_)
    replace hw := hw x99 e_x99
    obtain ⟨i_99, hw⟩ := hw
    refine a_lald (pc := 99) C dX12_takeNumber_99 1 rfl i_99 ?_
    refine a_l2i (pc := 100) C dX12_takeNumber_100 ?_
    exact hret _ _ _ _ _ hw dX12_takeNumber_101
  · replace hw := hw.2 c_74
    refine a_iconst (pc := 77) C dX12_takeNumber_77 kc_0 ?_
    exact hret _ _ _ _ _ hw dX12_takeNumber_78
set_option maxRecDepth 20000 in
theorem m_X12_takeNumber_b65 {X : Ctx} (C : Cok X cX12_takeNumber 3 RX12 (rmL 1) Fz0) {pl : Pool} {A_t A_t_value A_t_place A_t_sort : Nat} {U_t_thrown U_t_tape U_t_taped U_t_size U_t_words U_t_towns U_t_op U_t_arg U_t_codes U_t_facts U_t_pile U_t_shadeDay U_t_sun U_t_isShut U_t_sunny U_t_cost U_t_leastCost U_t_leastEnd U_t_wayOf U_t_wayMany U_t_whereAt U_t_reach U_t_likely U_t_crowdAt U_t_crowdBy U_t_crowdRounds U_t_bestSquare U_t_bestBy U_t_spotsMany U_t_spotAt U_t_followed U_t_followOf U_t_toldMany U_t_toldOf U_t_stepsTo U_t_reachOne U_t_isMarked U_t_markOf : Value} {t_value : Nat → Int64} {t_place : Nat → Int32} {t_sort : Nat → Int32} {post : Int32 → Int32 → Int32 → Prop} (hret : ∀ (r : Int32) (w0 : Int32) (w1 : Int32) (pc : Nat) (lo : List (Option Value)), post r w0 w1 → decode cX12_takeNumber pc = .ok (.ireturn, 1) → AW X 3 0 0 (w_X12_takeNumber (cxG X) A_t A_t_value A_t_place A_t_sort U_t_thrown U_t_tape U_t_taped U_t_size U_t_words U_t_towns U_t_op U_t_arg U_t_codes U_t_facts U_t_pile U_t_shadeDay U_t_sun U_t_isShut U_t_sunny U_t_cost U_t_leastCost U_t_leastEnd U_t_wayOf U_t_wayMany U_t_whereAt U_t_reach U_t_likely U_t_crowdAt U_t_crowdBy U_t_crowdRounds U_t_bestSquare U_t_bestBy U_t_spotsMany U_t_spotAt U_t_followed U_t_followOf U_t_toldMany U_t_toldOf U_t_stepsTo U_t_reachOne U_t_isMarked U_t_markOf w0 w1 t_value t_place t_sort) pl pc lo [.int r]) {t_at : Int32} {t_fault : Int32} (hw : wp_X12_takeNumber_b65  t_value t_place t_sort post t_at t_fault) : AW X 3 0 0 (w_X12_takeNumber (cxG X) A_t A_t_value A_t_place A_t_sort U_t_thrown U_t_tape U_t_taped U_t_size U_t_words U_t_towns U_t_op U_t_arg U_t_codes U_t_facts U_t_pile U_t_shadeDay U_t_sun U_t_isShut U_t_sunny U_t_cost U_t_leastCost U_t_leastEnd U_t_wayOf U_t_wayMany U_t_whereAt U_t_reach U_t_likely U_t_crowdAt U_t_crowdBy U_t_crowdRounds U_t_bestSquare U_t_bestBy U_t_spotsMany U_t_spotAt U_t_followed U_t_followOf U_t_toldMany U_t_toldOf U_t_stepsTo U_t_reachOne U_t_isMarked U_t_markOf t_at t_fault t_value t_place t_sort) pl 65 [some (.ref A_t), none, none] [] := by
  replace hw : wp_X12_wrong t_at t_place t_fault 4 (fun t_fault_67 => wp_X12_takeNumber_b70 t_value t_place t_sort post t_at t_fault_67) := hw
  refine a_aload_n (pc := 65) (i := 0) C dX12_takeNumber_65 rfl rfl ?_
  refine a_iconst (pc := 66) C dX12_takeNumber_66 kc_4 ?_
  refine a_callVv (pc := 67) (As := [.int 4]) (st := []) (ws' := (fun u => (w_X12_takeNumber (cxG X) A_t A_t_value A_t_place A_t_sort U_t_thrown U_t_tape U_t_taped U_t_size U_t_words U_t_towns U_t_op U_t_arg U_t_codes U_t_facts U_t_pile U_t_shadeDay U_t_sun U_t_isShut U_t_sunny U_t_cost U_t_leastCost U_t_leastEnd U_t_wayOf U_t_wayMany U_t_whereAt U_t_reach U_t_likely U_t_crowdAt U_t_crowdBy U_t_crowdRounds U_t_bestSquare U_t_bestBy U_t_spotsMany U_t_spotAt U_t_followed U_t_followOf U_t_toldMany U_t_toldOf U_t_stepsTo U_t_reachOne U_t_isMarked U_t_markOf t_at u t_value t_place t_sort))) C (c_X12_wrong A_t A_t_place U_t_thrown U_t_tape U_t_taped U_t_size (.ref A_t_sort) (.ref A_t_value) U_t_words U_t_towns U_t_op U_t_arg U_t_codes U_t_facts U_t_pile U_t_shadeDay U_t_sun U_t_isShut U_t_sunny U_t_cost U_t_leastCost U_t_leastEnd U_t_wayOf U_t_wayMany U_t_whereAt U_t_reach U_t_likely U_t_crowdAt U_t_crowdBy U_t_crowdRounds U_t_bestSquare U_t_bestBy U_t_spotsMany U_t_spotAt U_t_followed U_t_followOf U_t_toldMany U_t_toldOf U_t_stepsTo U_t_reachOne U_t_isMarked U_t_markOf hw) dX12_takeNumber_67 mth_X12_wrong tml_X12_205 (fun _ _ h => trivial) Fz0_ok (rml (by decide) (by decide)) (Nat.le_of_ble_eq_true rfl) rfl rfl [0, 2] [1, 3] [2, 0, 3, 1] rfl rfl rfl rfl rfl rfl (ci := 12) rfl ⟨0, _, rfl⟩ (fun _ => rfl) rfl (fun _ => rfl) (fun u hw => ?_)
  obtain ⟨t_fault_67, rfl⟩ : ∃ z, z = u := ⟨_, rfl⟩
  show AW X 3 0 0 (w_X12_takeNumber (cxG X) A_t A_t_value A_t_place A_t_sort U_t_thrown U_t_tape U_t_taped U_t_size U_t_words U_t_towns U_t_op U_t_arg U_t_codes U_t_facts U_t_pile U_t_shadeDay U_t_sun U_t_isShut U_t_sunny U_t_cost U_t_leastCost U_t_leastEnd U_t_wayOf U_t_wayMany U_t_whereAt U_t_reach U_t_likely U_t_crowdAt U_t_crowdBy U_t_crowdRounds U_t_bestSquare U_t_bestBy U_t_spotsMany U_t_spotAt U_t_followed U_t_followOf U_t_toldMany U_t_toldOf U_t_stepsTo U_t_reachOne U_t_isMarked U_t_markOf t_at t_fault_67 t_value t_place t_sort) pl 70 [some (.ref A_t), none, none] []
  exact m_X12_takeNumber_b70 C hret hw
set_option maxRecDepth 20000 in
theorem m_X12_takeNumber_b28 {X : Ctx} (C : Cok X cX12_takeNumber 3 RX12 (rmL 1) Fz0) {pl : Pool} {A_t A_t_value A_t_place A_t_sort : Nat} {U_t_thrown U_t_tape U_t_taped U_t_size U_t_words U_t_towns U_t_op U_t_arg U_t_codes U_t_facts U_t_pile U_t_shadeDay U_t_sun U_t_isShut U_t_sunny U_t_cost U_t_leastCost U_t_leastEnd U_t_wayOf U_t_wayMany U_t_whereAt U_t_reach U_t_likely U_t_crowdAt U_t_crowdBy U_t_crowdRounds U_t_bestSquare U_t_bestBy U_t_spotsMany U_t_spotAt U_t_followed U_t_followOf U_t_toldMany U_t_toldOf U_t_stepsTo U_t_reachOne U_t_isMarked U_t_markOf : Value} {t_value : Nat → Int64} {t_place : Nat → Int32} {t_sort : Nat → Int32} {post : Int32 → Int32 → Int32 → Prop} (hret : ∀ (r : Int32) (w0 : Int32) (w1 : Int32) (pc : Nat) (lo : List (Option Value)), post r w0 w1 → decode cX12_takeNumber pc = .ok (.ireturn, 1) → AW X 3 0 0 (w_X12_takeNumber (cxG X) A_t A_t_value A_t_place A_t_sort U_t_thrown U_t_tape U_t_taped U_t_size U_t_words U_t_towns U_t_op U_t_arg U_t_codes U_t_facts U_t_pile U_t_shadeDay U_t_sun U_t_isShut U_t_sunny U_t_cost U_t_leastCost U_t_leastEnd U_t_wayOf U_t_wayMany U_t_whereAt U_t_reach U_t_likely U_t_crowdAt U_t_crowdBy U_t_crowdRounds U_t_bestSquare U_t_bestBy U_t_spotsMany U_t_spotAt U_t_followed U_t_followOf U_t_toldMany U_t_toldOf U_t_stepsTo U_t_reachOne U_t_isMarked U_t_markOf w0 w1 t_value t_place t_sort) pl pc lo [.int r]) {t_at : Int32} {t_fault : Int32} {l1 : Int32} {l2 : Int32} (hw : wp_X12_takeNumber_b28  t_value t_place t_sort post t_at t_fault l1 l2) : AW X 3 0 0 (w_X12_takeNumber (cxG X) A_t A_t_value A_t_place A_t_sort U_t_thrown U_t_tape U_t_taped U_t_size U_t_words U_t_towns U_t_op U_t_arg U_t_codes U_t_facts U_t_pile U_t_shadeDay U_t_sun U_t_isShut U_t_sunny U_t_cost U_t_leastCost U_t_leastEnd U_t_wayOf U_t_wayMany U_t_whereAt U_t_reach U_t_likely U_t_crowdAt U_t_crowdBy U_t_crowdRounds U_t_bestSquare U_t_bestBy U_t_spotsMany U_t_spotAt U_t_followed U_t_followOf U_t_toldMany U_t_toldOf U_t_stepsTo U_t_reachOne U_t_isMarked U_t_markOf t_at t_fault t_value t_place t_sort) pl 28 [some (.ref A_t), some (.int l1), some (.int l2)] [] := by
  refine a_aload_n (pc := 28) (i := 0) C dX12_takeNumber_28 rfl rfl ?_
  refine a_get (pc := 29) C fl_X12_199 dX12_takeNumber_29 0 rfl rfl ?_
  refine a_if_ne (pc := 32) (tgt := 70) C dX12_takeNumber_32 (by decide) (fun c_32 => ?_) (fun c_32 => ?_)
  · replace hw := hw.1 c_32
    refine a_msk [true, false, false] rfl ?_
    exact m_X12_takeNumber_b70 C hret hw
  · replace hw := hw.2 c_32
    refine a_aload_n (pc := 35) (i := 0) C dX12_takeNumber_35 rfl rfl ?_
    refine a_get (pc := 36) C fl_X12_30 dX12_takeNumber_36 0 rfl rfl ?_
    refine a_aload_n (pc := 39) (i := 0) C dX12_takeNumber_39 rfl rfl ?_
    refine a_get (pc := 40) C fl_X12_196 dX12_takeNumber_40 0 rfl rfl ?_
    obtain ⟨i_43, hw⟩ := hw
    refine a_lald (pc := 43) C dX12_takeNumber_43 1 rfl i_43 ?_
    refine a_iload_n (pc := 44) (i := 1) C dX12_takeNumber_44 rfl rfl ?_
    refine a_i2l (pc := 45) C dX12_takeNumber_45 ?_
    refine a_lcmp (pc := 46) C dX12_takeNumber_46 ?_
    refine a_if_lt (pc := 47) (tgt := 65) C dX12_takeNumber_47 (by decide) (fun c_47 => ?_) (fun c_47 => ?_)
    · replace hw := hw.1 c_47
      refine a_msk [true, false, false] rfl ?_
      exact m_X12_takeNumber_b65 C hret hw
    · replace hw := hw.2 c_47
      refine a_aload_n (pc := 50) (i := 0) C dX12_takeNumber_50 rfl rfl ?_
      refine a_get (pc := 51) C fl_X12_30 dX12_takeNumber_51 0 rfl rfl ?_
      refine a_aload_n (pc := 54) (i := 0) C dX12_takeNumber_54 rfl rfl ?_
      refine a_get (pc := 55) C fl_X12_196 dX12_takeNumber_55 0 rfl rfl ?_
      obtain ⟨i_58, hw⟩ := hw
      refine a_lald (pc := 58) C dX12_takeNumber_58 1 rfl i_58 ?_
      refine a_iload_n (pc := 59) (i := 2) C dX12_takeNumber_59 rfl rfl ?_
      refine a_i2l (pc := 60) C dX12_takeNumber_60 ?_
      refine a_lcmp (pc := 61) C dX12_takeNumber_61 ?_
      refine a_if_le (pc := 62) (tgt := 70) C dX12_takeNumber_62 (by decide) (fun c_62 => ?_) (fun c_62 => ?_)
      · replace hw := hw.1 c_62
        refine a_msk [true, false, false] rfl ?_
        exact m_X12_takeNumber_b70 C hret hw
      · replace hw := hw.2 c_62
        refine a_msk [true, false, false] rfl ?_
        exact m_X12_takeNumber_b65 C hret hw
set_option maxRecDepth 20000 in
theorem m_X12_takeNumber {X : Ctx} (C : Cok X cX12_takeNumber 3 RX12 (rmL 1) Fz0) {pl : Pool} {A_t A_t_value A_t_place A_t_sort : Nat} {U_t_thrown U_t_tape U_t_taped U_t_size U_t_words U_t_towns U_t_op U_t_arg U_t_codes U_t_facts U_t_pile U_t_shadeDay U_t_sun U_t_isShut U_t_sunny U_t_cost U_t_leastCost U_t_leastEnd U_t_wayOf U_t_wayMany U_t_whereAt U_t_reach U_t_likely U_t_crowdAt U_t_crowdBy U_t_crowdRounds U_t_bestSquare U_t_bestBy U_t_spotsMany U_t_spotAt U_t_followed U_t_followOf U_t_toldMany U_t_toldOf U_t_stepsTo U_t_reachOne U_t_isMarked U_t_markOf : Value} {t_value : Nat → Int64} {t_place : Nat → Int32} {t_sort : Nat → Int32} {t_at : Int32} {t_fault : Int32} {p1 : Int32} {p2 : Int32} {post : Int32 → Int32 → Int32 → Prop} (hret : ∀ (r : Int32) (w0 : Int32) (w1 : Int32) (pc : Nat) (lo : List (Option Value)), post r w0 w1 → decode cX12_takeNumber pc = .ok (.ireturn, 1) → AW X 3 0 0 (w_X12_takeNumber (cxG X) A_t A_t_value A_t_place A_t_sort U_t_thrown U_t_tape U_t_taped U_t_size U_t_words U_t_towns U_t_op U_t_arg U_t_codes U_t_facts U_t_pile U_t_shadeDay U_t_sun U_t_isShut U_t_sunny U_t_cost U_t_leastCost U_t_leastEnd U_t_wayOf U_t_wayMany U_t_whereAt U_t_reach U_t_likely U_t_crowdAt U_t_crowdBy U_t_crowdRounds U_t_bestSquare U_t_bestBy U_t_spotsMany U_t_spotAt U_t_followed U_t_followOf U_t_toldMany U_t_toldOf U_t_stepsTo U_t_reachOne U_t_isMarked U_t_markOf w0 w1 t_value t_place t_sort) pl pc lo [.int r]) (hw : wp_X12_takeNumber t_value t_place t_sort t_at t_fault p1 p2 post) : AW X 3 0 0 (w_X12_takeNumber (cxG X) A_t A_t_value A_t_place A_t_sort U_t_thrown U_t_tape U_t_taped U_t_size U_t_words U_t_towns U_t_op U_t_arg U_t_codes U_t_facts U_t_pile U_t_shadeDay U_t_sun U_t_isShut U_t_sunny U_t_cost U_t_leastCost U_t_leastEnd U_t_wayOf U_t_wayMany U_t_whereAt U_t_reach U_t_likely U_t_crowdAt U_t_crowdBy U_t_crowdRounds U_t_bestSquare U_t_bestBy U_t_spotsMany U_t_spotAt U_t_followed U_t_followOf U_t_toldMany U_t_toldOf U_t_stepsTo U_t_reachOne U_t_isMarked U_t_markOf t_at t_fault t_value t_place t_sort) pl 0 [some (.ref A_t), some (.int p1), some (.int p2)] [] := by
  refine a_aload_n (pc := 0) (i := 0) C dX12_takeNumber_0 rfl rfl ?_
  refine a_get (pc := 1) C fl_X12_199 dX12_takeNumber_1 0 rfl rfl ?_
  refine a_if_ne (pc := 4) (tgt := 28) C dX12_takeNumber_4 (by decide) (fun c_4 => ?_) (fun c_4 => ?_)
  · replace hw := hw.1 c_4
    exact m_X12_takeNumber_b28 C hret hw
  · replace hw := hw.2 c_4
    refine a_aload_n (pc := 7) (i := 0) C dX12_takeNumber_7 rfl rfl ?_
    refine a_get (pc := 8) C fl_X12_24 dX12_takeNumber_8 0 rfl rfl ?_
    refine a_aload_n (pc := 11) (i := 0) C dX12_takeNumber_11 rfl rfl ?_
    refine a_get (pc := 12) C fl_X12_196 dX12_takeNumber_12 0 rfl rfl ?_
    obtain ⟨i_15, hw⟩ := hw
    refine a_iald (pc := 15) C dX12_takeNumber_15 3 rfl i_15 ?_
    refine a_iconst (pc := 16) C dX12_takeNumber_16 kc_2 ?_
    refine a_icmp_eq (pc := 17) (tgt := 28) C dX12_takeNumber_17 (by decide) (fun c_17 => ?_) (fun c_17 => ?_)
    · replace hw := hw.1 c_17
      exact m_X12_takeNumber_b28 C hret hw
    · replace hw := hw.2 c_17
      refine a_aload_n (pc := 20) (i := 0) C dX12_takeNumber_20 rfl rfl ?_
      refine a_iconst (pc := 21) C dX12_takeNumber_21 kc_1 ?_
      refine a_callVv (pc := 22) (As := [.int 1]) (st := []) (ws' := (fun u => (w_X12_takeNumber (cxG X) A_t A_t_value A_t_place A_t_sort U_t_thrown U_t_tape U_t_taped U_t_size U_t_words U_t_towns U_t_op U_t_arg U_t_codes U_t_facts U_t_pile U_t_shadeDay U_t_sun U_t_isShut U_t_sunny U_t_cost U_t_leastCost U_t_leastEnd U_t_wayOf U_t_wayMany U_t_whereAt U_t_reach U_t_likely U_t_crowdAt U_t_crowdBy U_t_crowdRounds U_t_bestSquare U_t_bestBy U_t_spotsMany U_t_spotAt U_t_followed U_t_followOf U_t_toldMany U_t_toldOf U_t_stepsTo U_t_reachOne U_t_isMarked U_t_markOf t_at u t_value t_place t_sort))) C (c_X12_wrong A_t A_t_place U_t_thrown U_t_tape U_t_taped U_t_size (.ref A_t_sort) (.ref A_t_value) U_t_words U_t_towns U_t_op U_t_arg U_t_codes U_t_facts U_t_pile U_t_shadeDay U_t_sun U_t_isShut U_t_sunny U_t_cost U_t_leastCost U_t_leastEnd U_t_wayOf U_t_wayMany U_t_whereAt U_t_reach U_t_likely U_t_crowdAt U_t_crowdBy U_t_crowdRounds U_t_bestSquare U_t_bestBy U_t_spotsMany U_t_spotAt U_t_followed U_t_followOf U_t_toldMany U_t_toldOf U_t_stepsTo U_t_reachOne U_t_isMarked U_t_markOf hw) dX12_takeNumber_22 mth_X12_wrong tml_X12_205 (fun _ _ h => trivial) Fz0_ok (rml (by decide) (by decide)) (Nat.le_of_ble_eq_true rfl) rfl rfl [0, 2] [1, 3] [2, 0, 3, 1] rfl rfl rfl rfl rfl rfl (ci := 12) rfl ⟨0, _, rfl⟩ (fun _ => rfl) rfl (fun _ => rfl) (fun u hw => ?_)
      obtain ⟨t_fault_22, rfl⟩ : ∃ z, z = u := ⟨_, rfl⟩
      show AW X 3 0 0 (w_X12_takeNumber (cxG X) A_t A_t_value A_t_place A_t_sort U_t_thrown U_t_tape U_t_taped U_t_size U_t_words U_t_towns U_t_op U_t_arg U_t_codes U_t_facts U_t_pile U_t_shadeDay U_t_sun U_t_isShut U_t_sunny U_t_cost U_t_leastCost U_t_leastEnd U_t_wayOf U_t_wayMany U_t_whereAt U_t_reach U_t_likely U_t_crowdAt U_t_crowdBy U_t_crowdRounds U_t_bestSquare U_t_bestBy U_t_spotsMany U_t_spotAt U_t_followed U_t_followOf U_t_toldMany U_t_toldOf U_t_stepsTo U_t_reachOne U_t_isMarked U_t_markOf t_at t_fault_22 t_value t_place t_sort) pl 25 [some (.ref A_t), some (.int p1), some (.int p2)] []
      refine a_goto (pc := 25) (tgt := 70) C dX12_takeNumber_25 (by decide) ?_
      refine a_msk [true, false, false] rfl ?_
      exact m_X12_takeNumber_b70 C hret hw
theorem c_X12_takeNumber {l : Launch} {g : GG} {pl : Pool} (A_t A_t_value A_t_place A_t_sort : Nat) (U_t_thrown U_t_tape U_t_taped U_t_size U_t_words U_t_towns U_t_op U_t_arg U_t_codes U_t_facts U_t_pile U_t_shadeDay U_t_sun U_t_isShut U_t_sunny U_t_cost U_t_leastCost U_t_leastEnd U_t_wayOf U_t_wayMany U_t_whereAt U_t_reach U_t_likely U_t_crowdAt U_t_crowdBy U_t_crowdRounds U_t_bestSquare U_t_bestBy U_t_spotsMany U_t_spotAt U_t_followed U_t_followOf U_t_toldMany U_t_toldOf U_t_stepsTo U_t_reachOne U_t_isMarked U_t_markOf : Value) {t_value : Nat → Int64} {t_place : Nat → Int32} {t_sort : Nat → Int32} {t_at : Int32} {t_fault : Int32} {p1 : Int32} {p2 : Int32} {post : Int32 → Int32 → Int32 → Prop} (hw : wp_X12_takeNumber t_value t_place t_sort t_at t_fault p1 p2 post) : MI l yX12_takeNumber cX12_takeNumber 3 (some .int) (rmL 1) g Fz0 [.ref A_t, .int p1, .int p2] (w_X12_takeNumber g A_t A_t_value A_t_place A_t_sort U_t_thrown U_t_tape U_t_taped U_t_size U_t_words U_t_towns U_t_op U_t_arg U_t_codes U_t_facts U_t_pile U_t_shadeDay U_t_sun U_t_isShut U_t_sunny U_t_cost U_t_leastCost U_t_leastEnd U_t_wayOf U_t_wayMany U_t_whereAt U_t_reach U_t_likely U_t_crowdAt U_t_crowdBy U_t_crowdRounds U_t_bestSquare U_t_bestBy U_t_spotsMany U_t_spotAt U_t_followed U_t_followOf U_t_toldMany U_t_toldOf U_t_stepsTo U_t_reachOne U_t_isMarked U_t_markOf t_at t_fault t_value t_place t_sort) pl (fun r (u : Int32 × Int32) => post r u.1 u.2) (fun u => (w_X12_takeNumber g A_t A_t_value A_t_place A_t_sort U_t_thrown U_t_tape U_t_taped U_t_size U_t_words U_t_towns U_t_op U_t_arg U_t_codes U_t_facts U_t_pile U_t_shadeDay U_t_sun U_t_isShut U_t_sunny U_t_cost U_t_leastCost U_t_leastEnd U_t_wayOf U_t_wayMany U_t_whereAt U_t_reach U_t_likely U_t_crowdAt U_t_crowdBy U_t_crowdRounds U_t_bestSquare U_t_bestBy U_t_spotsMany U_t_spotAt U_t_followed U_t_followOf U_t_toldMany U_t_toldOf U_t_stepsTo U_t_reachOne U_t_isMarked U_t_markOf u.1 u.2 t_value t_place t_sort)) (fun _ => pl) 0 0 := by
  refine met_i (own := RX12) rfl rfl (Nat.le_of_ble_eq_true rfl) (fun X hg hl C hini hret => ?_)
  subst hg
  subst hl
  exact m_X12_takeNumber C (fun r w0 w1 pc lo hp hd => hret r (w0, w1) pc lo hp hd) hw
abbrev w_X12_carry (g : GG) (A_t A_t_towns A_t_op A_t_arg : Nat) (U_t_thrown U_t_tape U_t_taped U_t_size U_t_sort U_t_place U_t_value U_t_at U_t_fault U_t_words U_t_codes U_t_facts U_t_pile U_t_shadeDay U_t_sun U_t_isShut U_t_sunny U_t_cost U_t_leastCost U_t_leastEnd U_t_wayOf U_t_wayMany U_t_whereAt U_t_reach U_t_likely U_t_crowdAt U_t_crowdBy U_t_crowdRounds U_t_bestSquare U_t_bestBy U_t_spotsMany U_t_spotAt U_t_followed U_t_followOf U_t_toldMany U_t_toldOf U_t_stepsTo U_t_reachOne U_t_isMarked U_t_markOf : Value) (t_towns : Nat → Int32) (t_op : Nat → Int32) (t_arg : Nat → Int32) : va_W := [(A_t, ob 12 [U_t_thrown, U_t_tape, U_t_taped, U_t_size, U_t_sort, U_t_place, U_t_value, U_t_at, U_t_fault, U_t_words, .ref A_t_towns, .ref A_t_op, .ref A_t_arg, U_t_codes, U_t_facts, U_t_pile, U_t_shadeDay, U_t_sun, U_t_isShut, U_t_sunny, U_t_cost, U_t_leastCost, U_t_leastEnd, U_t_wayOf, U_t_wayMany, U_t_whereAt, U_t_reach, U_t_likely, U_t_crowdAt, U_t_crowdBy, U_t_crowdRounds, U_t_bestSquare, U_t_bestBy, U_t_spotsMany, U_t_spotAt, U_t_followed, U_t_followOf, U_t_toldMany, U_t_toldOf, U_t_stepsTo, U_t_reachOne, U_t_isMarked, U_t_markOf]), (A_t_towns, aI g 2640 t_towns), (A_t_op, aI g 6600 t_op), (A_t_arg, aI g 6600 t_arg)]
set_option maxRecDepth 20000 in
theorem m_X12_carry_L2 {X : Ctx} (C : Cok X cX12_carry 4 RX12 (rmL 0) Fz0) {pl : Pool} {A_t A_t_towns A_t_op A_t_arg : Nat} {U_t_thrown U_t_tape U_t_taped U_t_size U_t_sort U_t_place U_t_value U_t_at U_t_fault U_t_words U_t_codes U_t_facts U_t_pile U_t_shadeDay U_t_sun U_t_isShut U_t_sunny U_t_cost U_t_leastCost U_t_leastEnd U_t_wayOf U_t_wayMany U_t_whereAt U_t_reach U_t_likely U_t_crowdAt U_t_crowdBy U_t_crowdRounds U_t_bestSquare U_t_bestBy U_t_spotsMany U_t_spotAt U_t_followed U_t_followOf U_t_toldMany U_t_toldOf U_t_stepsTo U_t_reachOne U_t_isMarked U_t_markOf : Value} {post : (Nat → Int32) → (Nat → Int32) → (Nat → Int32) → Prop} (hret : ∀ (w0 : Nat → Int32) (w1 : Nat → Int32) (w2 : Nat → Int32) (pc : Nat) (lo : List (Option Value)), post w0 w1 w2 → decode cX12_carry pc = .ok (.return_, 1) → AW X 4 0 0 (w_X12_carry (cxG X) A_t A_t_towns A_t_op A_t_arg U_t_thrown U_t_tape U_t_taped U_t_size U_t_sort U_t_place U_t_value U_t_at U_t_fault U_t_words U_t_codes U_t_facts U_t_pile U_t_shadeDay U_t_sun U_t_isShut U_t_sunny U_t_cost U_t_leastCost U_t_leastEnd U_t_wayOf U_t_wayMany U_t_whereAt U_t_reach U_t_likely U_t_crowdAt U_t_crowdBy U_t_crowdRounds U_t_bestSquare U_t_bestBy U_t_spotsMany U_t_spotAt U_t_followed U_t_followOf U_t_toldMany U_t_toldOf U_t_stepsTo U_t_reachOne U_t_isMarked U_t_markOf w0 w1 w2) pl pc lo []) {x_39 : (Nat → Int32) → (Nat → Int32) → (Nat → Int32) → Int32 → Int32 → Prop} (hx_39 : ∀ (t_towns : Nat → Int32) (t_op : Nat → Int32) (t_arg : Nat → Int32) (l1 : Int32) (l2 : Int32) , x_39 t_towns t_op t_arg l1 l2 → AW X 4 0 0 (w_X12_carry (cxG X) A_t A_t_towns A_t_op A_t_arg U_t_thrown U_t_tape U_t_taped U_t_size U_t_sort U_t_place U_t_value U_t_at U_t_fault U_t_words U_t_codes U_t_facts U_t_pile U_t_shadeDay U_t_sun U_t_isShut U_t_sunny U_t_cost U_t_leastCost U_t_leastEnd U_t_wayOf U_t_wayMany U_t_whereAt U_t_reach U_t_likely U_t_crowdAt U_t_crowdBy U_t_crowdRounds U_t_bestSquare U_t_bestBy U_t_spotsMany U_t_spotAt U_t_followed U_t_followOf U_t_toldMany U_t_toldOf U_t_stepsTo U_t_reachOne U_t_isMarked U_t_markOf t_towns t_op t_arg) pl 39 [some (.ref A_t), some (.int l1), some (.int l2), none] []) : ∀ (n2 : Nat) (t_towns : Nat → Int32) (t_op : Nat → Int32) (t_arg : Nat → Int32) (l1 : Int32) (l2 : Int32) (l3 : Int32) , lp (wp_X12_carry_L2 x_39 post) n2 (t_towns, t_op, t_arg, l1, l2, l3) → AW X 4 0 0 (w_X12_carry (cxG X) A_t A_t_towns A_t_op A_t_arg U_t_thrown U_t_tape U_t_taped U_t_size U_t_sort U_t_place U_t_value U_t_at U_t_fault U_t_words U_t_codes U_t_facts U_t_pile U_t_shadeDay U_t_sun U_t_isShut U_t_sunny U_t_cost U_t_leastCost U_t_leastEnd U_t_wayOf U_t_wayMany U_t_whereAt U_t_reach U_t_likely U_t_crowdAt U_t_crowdBy U_t_crowdRounds U_t_bestSquare U_t_bestBy U_t_spotsMany U_t_spotAt U_t_followed U_t_followOf U_t_toldMany U_t_toldOf U_t_stepsTo U_t_reachOne U_t_isMarked U_t_markOf t_towns t_op t_arg) pl 2 [some (.ref A_t), some (.int l1), some (.int l2), some (.int l3)] [] := by
  intro n2
  induction n2 with
  | zero => exact fun _ _ _ _ _ _ hw => hw.elim
  | succ n2 hkb =>
    intro t_towns t_op t_arg l1 l2 l3 hw
    replace hw : wp_X12_carry_L2 x_39 post (lp (wp_X12_carry_L2 x_39 post) n2) (t_towns, t_op, t_arg, l1, l2, l3) := hw
    generalize lp (wp_X12_carry_L2 x_39 post) n2 = kb at hw hkb
    refine a_iload_n (pc := 2) (i := 3) C dX12_carry_2 rfl rfl ?_
    refine a_sipush (pc := 3) C dX12_carry_3 ks_440 ?_
    refine a_icmp_ge (pc := 6) (tgt := 39) C dX12_carry_6 (by decide) (fun c_6 => ?_) (fun c_6 => ?_)
    · replace hw := hw.1 c_6
      refine a_msk [true, true, true, false] rfl ?_
      exact hx_39 _ _ _ _ _ hw
    · replace hw := hw.2 c_6
      refine a_aload_n (pc := 9) (i := 0) C dX12_carry_9 rfl rfl ?_
      refine a_get (pc := 10) C fl_X12_97 dX12_carry_10 0 rfl rfl ?_
      refine a_sipush (pc := 13) C dX12_carry_13 ks_440 ?_
      refine a_iload_n (pc := 16) (i := 2) C dX12_carry_16 rfl rfl ?_
      refine a_imul (pc := 17) C dX12_carry_17 ?_
      refine a_iload_n (pc := 18) (i := 3) C dX12_carry_18 rfl rfl ?_
      refine a_iadd (pc := 19) C dX12_carry_19 ?_
      refine a_aload_n (pc := 20) (i := 0) C dX12_carry_20 rfl rfl ?_
      refine a_get (pc := 21) C fl_X12_97 dX12_carry_21 0 rfl rfl ?_
      refine a_sipush (pc := 24) C dX12_carry_24 ks_440 ?_
      refine a_iload_n (pc := 27) (i := 1) C dX12_carry_27 rfl rfl ?_
      refine a_imul (pc := 28) C dX12_carry_28 ?_
      refine a_iload_n (pc := 29) (i := 3) C dX12_carry_29 rfl rfl ?_
      refine a_iadd (pc := 30) C dX12_carry_30 ?_
      refine a_topi (fun x31 e_x31 => ?_)
      replace hw := hw x31 e_x31
      obtain ⟨i_31, hw⟩ := hw
      refine a_iald (pc := 31) C dX12_carry_31 1 rfl i_31 ?_
      refine a_topi (fun x32 e_x32 => ?_)
      replace hw := hw x32 e_x32
      refine a_top2i (fun x32_1 e_x32_1 => ?_)
      replace hw := hw x32_1 e_x32_1
      obtain ⟨i_32, hw⟩ := hw
      refine a_iastW (pc := 32) C (fun h => (w_X12_carry (cxG X) A_t A_t_towns A_t_op A_t_arg U_t_thrown U_t_tape U_t_taped U_t_size U_t_sort U_t_place U_t_value U_t_at U_t_fault U_t_words U_t_codes U_t_facts U_t_pile U_t_shadeDay U_t_sun U_t_isShut U_t_sunny U_t_cost U_t_leastCost U_t_leastEnd U_t_wayOf U_t_wayMany U_t_whereAt U_t_reach U_t_likely U_t_crowdAt U_t_crowdBy U_t_crowdRounds U_t_bestSquare U_t_bestBy U_t_spotsMany U_t_spotAt U_t_followed U_t_followOf U_t_toldMany U_t_toldOf U_t_stepsTo U_t_reachOne U_t_isMarked U_t_markOf h t_op t_arg)) dX12_carry_32 1 rfl i_32 (fun _ => rfl) (fun t_towns_32 e_t_towns_32 => ?_)
      replace hw := hw t_towns_32 e_t_towns_32
      refine a_inc (pc := 33) (i := 3) C (fun y => [some (.ref A_t), some (.int l1), some (.int l2), some (.int y)]) dX12_carry_33 rfl kc_1 (by decide) rfl (fun _ => rfl) (fun y33 e_y33 => ?_)
      replace hw := hw y33 e_y33
      refine a_goto (pc := 36) (tgt := 2) C dX12_carry_36 (by decide) ?_
      exact hkb _ _ _ _ _ _ hw
set_option maxRecDepth 20000 in
theorem m_X12_carry_L41 {X : Ctx} (C : Cok X cX12_carry 4 RX12 (rmL 0) Fz0) {pl : Pool} {A_t A_t_towns A_t_op A_t_arg : Nat} {U_t_thrown U_t_tape U_t_taped U_t_size U_t_sort U_t_place U_t_value U_t_at U_t_fault U_t_words U_t_codes U_t_facts U_t_pile U_t_shadeDay U_t_sun U_t_isShut U_t_sunny U_t_cost U_t_leastCost U_t_leastEnd U_t_wayOf U_t_wayMany U_t_whereAt U_t_reach U_t_likely U_t_crowdAt U_t_crowdBy U_t_crowdRounds U_t_bestSquare U_t_bestBy U_t_spotsMany U_t_spotAt U_t_followed U_t_followOf U_t_toldMany U_t_toldOf U_t_stepsTo U_t_reachOne U_t_isMarked U_t_markOf : Value} {post : (Nat → Int32) → (Nat → Int32) → (Nat → Int32) → Prop} (hret : ∀ (w0 : Nat → Int32) (w1 : Nat → Int32) (w2 : Nat → Int32) (pc : Nat) (lo : List (Option Value)), post w0 w1 w2 → decode cX12_carry pc = .ok (.return_, 1) → AW X 4 0 0 (w_X12_carry (cxG X) A_t A_t_towns A_t_op A_t_arg U_t_thrown U_t_tape U_t_taped U_t_size U_t_sort U_t_place U_t_value U_t_at U_t_fault U_t_words U_t_codes U_t_facts U_t_pile U_t_shadeDay U_t_sun U_t_isShut U_t_sunny U_t_cost U_t_leastCost U_t_leastEnd U_t_wayOf U_t_wayMany U_t_whereAt U_t_reach U_t_likely U_t_crowdAt U_t_crowdBy U_t_crowdRounds U_t_bestSquare U_t_bestBy U_t_spotsMany U_t_spotAt U_t_followed U_t_followOf U_t_toldMany U_t_toldOf U_t_stepsTo U_t_reachOne U_t_isMarked U_t_markOf w0 w1 w2) pl pc lo []) {x_102 : (Nat → Int32) → (Nat → Int32) → (Nat → Int32) → Prop} (hx_102 : ∀ (t_towns : Nat → Int32) (t_op : Nat → Int32) (t_arg : Nat → Int32) , x_102 t_towns t_op t_arg → AW X 4 0 0 (w_X12_carry (cxG X) A_t A_t_towns A_t_op A_t_arg U_t_thrown U_t_tape U_t_taped U_t_size U_t_sort U_t_place U_t_value U_t_at U_t_fault U_t_words U_t_codes U_t_facts U_t_pile U_t_shadeDay U_t_sun U_t_isShut U_t_sunny U_t_cost U_t_leastCost U_t_leastEnd U_t_wayOf U_t_wayMany U_t_whereAt U_t_reach U_t_likely U_t_crowdAt U_t_crowdBy U_t_crowdRounds U_t_bestSquare U_t_bestBy U_t_spotsMany U_t_spotAt U_t_followed U_t_followOf U_t_toldMany U_t_toldOf U_t_stepsTo U_t_reachOne U_t_isMarked U_t_markOf t_towns t_op t_arg) pl 102 [none, none, none, none] []) : ∀ (n41 : Nat) (t_towns : Nat → Int32) (t_op : Nat → Int32) (t_arg : Nat → Int32) (l1 : Int32) (l2 : Int32) (l3 : Int32) , lp (wp_X12_carry_L41 x_102 post) n41 (t_towns, t_op, t_arg, l1, l2, l3) → AW X 4 0 0 (w_X12_carry (cxG X) A_t A_t_towns A_t_op A_t_arg U_t_thrown U_t_tape U_t_taped U_t_size U_t_sort U_t_place U_t_value U_t_at U_t_fault U_t_words U_t_codes U_t_facts U_t_pile U_t_shadeDay U_t_sun U_t_isShut U_t_sunny U_t_cost U_t_leastCost U_t_leastEnd U_t_wayOf U_t_wayMany U_t_whereAt U_t_reach U_t_likely U_t_crowdAt U_t_crowdBy U_t_crowdRounds U_t_bestSquare U_t_bestBy U_t_spotsMany U_t_spotAt U_t_followed U_t_followOf U_t_toldMany U_t_toldOf U_t_stepsTo U_t_reachOne U_t_isMarked U_t_markOf t_towns t_op t_arg) pl 41 [some (.ref A_t), some (.int l1), some (.int l2), some (.int l3)] [] := by
  intro n41
  induction n41 with
  | zero => exact fun _ _ _ _ _ _ hw => hw.elim
  | succ n41 hkb =>
    intro t_towns t_op t_arg l1 l2 l3 hw
    replace hw : wp_X12_carry_L41 x_102 post (lp (wp_X12_carry_L41 x_102 post) n41) (t_towns, t_op, t_arg, l1, l2, l3) := hw
    generalize lp (wp_X12_carry_L41 x_102 post) n41 = kb at hw hkb
    refine a_iload_n (pc := 41) (i := 3) C dX12_carry_41 rfl rfl ?_
    refine a_sipush (pc := 42) C dX12_carry_42 ks_1100 ?_
    refine a_icmp_ge (pc := 45) (tgt := 102) C dX12_carry_45 (by decide) (fun c_45 => ?_) (fun c_45 => ?_)
    · replace hw := hw.1 c_45
      refine a_msk [false, false, false, false] rfl ?_
      exact hx_102 _ _ _ hw
    · replace hw := hw.2 c_45
      refine a_aload_n (pc := 48) (i := 0) C dX12_carry_48 rfl rfl ?_
      refine a_get (pc := 49) C fl_X12_100 dX12_carry_49 0 rfl rfl ?_
      refine a_sipush (pc := 52) C dX12_carry_52 ks_1100 ?_
      refine a_iload_n (pc := 55) (i := 2) C dX12_carry_55 rfl rfl ?_
      refine a_imul (pc := 56) C dX12_carry_56 ?_
      refine a_iload_n (pc := 57) (i := 3) C dX12_carry_57 rfl rfl ?_
      refine a_iadd (pc := 58) C dX12_carry_58 ?_
      refine a_aload_n (pc := 59) (i := 0) C dX12_carry_59 rfl rfl ?_
      refine a_get (pc := 60) C fl_X12_100 dX12_carry_60 0 rfl rfl ?_
      refine a_sipush (pc := 63) C dX12_carry_63 ks_1100 ?_
      refine a_iload_n (pc := 66) (i := 1) C dX12_carry_66 rfl rfl ?_
      refine a_imul (pc := 67) C dX12_carry_67 ?_
      refine a_iload_n (pc := 68) (i := 3) C dX12_carry_68 rfl rfl ?_
      refine a_iadd (pc := 69) C dX12_carry_69 ?_
      refine a_topi (fun x70 e_x70 => ?_)
      replace hw := hw x70 e_x70
      obtain ⟨i_70, hw⟩ := hw
      refine a_iald (pc := 70) C dX12_carry_70 2 rfl i_70 ?_
      refine a_topi (fun x71 e_x71 => ?_)
      replace hw := hw x71 e_x71
      refine a_top2i (fun x71_1 e_x71_1 => ?_)
      replace hw := hw x71_1 e_x71_1
      obtain ⟨i_71, hw⟩ := hw
      refine a_iastW (pc := 71) C (fun h => (w_X12_carry (cxG X) A_t A_t_towns A_t_op A_t_arg U_t_thrown U_t_tape U_t_taped U_t_size U_t_sort U_t_place U_t_value U_t_at U_t_fault U_t_words U_t_codes U_t_facts U_t_pile U_t_shadeDay U_t_sun U_t_isShut U_t_sunny U_t_cost U_t_leastCost U_t_leastEnd U_t_wayOf U_t_wayMany U_t_whereAt U_t_reach U_t_likely U_t_crowdAt U_t_crowdBy U_t_crowdRounds U_t_bestSquare U_t_bestBy U_t_spotsMany U_t_spotAt U_t_followed U_t_followOf U_t_toldMany U_t_toldOf U_t_stepsTo U_t_reachOne U_t_isMarked U_t_markOf t_towns h t_arg)) dX12_carry_71 2 rfl i_71 (fun _ => rfl) (fun t_op_71 e_t_op_71 => ?_)
      replace hw := hw t_op_71 e_t_op_71
      refine a_aload_n (pc := 72) (i := 0) C dX12_carry_72 rfl rfl ?_
      refine a_get (pc := 73) C fl_X12_103 dX12_carry_73 0 rfl rfl ?_
      refine a_sipush (pc := 76) C dX12_carry_76 ks_1100 ?_
      refine a_iload_n (pc := 79) (i := 2) C dX12_carry_79 rfl rfl ?_
      refine a_imul (pc := 80) C dX12_carry_80 ?_
      refine a_iload_n (pc := 81) (i := 3) C dX12_carry_81 rfl rfl ?_
      refine a_iadd (pc := 82) C dX12_carry_82 ?_
      refine a_aload_n (pc := 83) (i := 0) C dX12_carry_83 rfl rfl ?_
      refine a_get (pc := 84) C fl_X12_103 dX12_carry_84 0 rfl rfl ?_
      refine a_sipush (pc := 87) C dX12_carry_87 ks_1100 ?_
      refine a_iload_n (pc := 90) (i := 1) C dX12_carry_90 rfl rfl ?_
      refine a_imul (pc := 91) C dX12_carry_91 ?_
      refine a_iload_n (pc := 92) (i := 3) C dX12_carry_92 rfl rfl ?_
      refine a_iadd (pc := 93) C dX12_carry_93 ?_
      refine a_topi (fun x94 e_x94 => ?_)
      replace hw := hw x94 e_x94
      obtain ⟨i_94, hw⟩ := hw
      refine a_iald (pc := 94) C dX12_carry_94 3 rfl i_94 ?_
      refine a_topi (fun x95 e_x95 => ?_)
      replace hw := hw x95 e_x95
      refine a_top2i (fun x95_1 e_x95_1 => ?_)
      replace hw := hw x95_1 e_x95_1
      obtain ⟨i_95, hw⟩ := hw
      refine a_iastW (pc := 95) C (fun h => (w_X12_carry (cxG X) A_t A_t_towns A_t_op A_t_arg U_t_thrown U_t_tape U_t_taped U_t_size U_t_sort U_t_place U_t_value U_t_at U_t_fault U_t_words U_t_codes U_t_facts U_t_pile U_t_shadeDay U_t_sun U_t_isShut U_t_sunny U_t_cost U_t_leastCost U_t_leastEnd U_t_wayOf U_t_wayMany U_t_whereAt U_t_reach U_t_likely U_t_crowdAt U_t_crowdBy U_t_crowdRounds U_t_bestSquare U_t_bestBy U_t_spotsMany U_t_spotAt U_t_followed U_t_followOf U_t_toldMany U_t_toldOf U_t_stepsTo U_t_reachOne U_t_isMarked U_t_markOf t_towns t_op_71 h)) dX12_carry_95 3 rfl i_95 (fun _ => rfl) (fun t_arg_95 e_t_arg_95 => ?_)
      replace hw := hw t_arg_95 e_t_arg_95
      refine a_inc (pc := 96) (i := 3) C (fun y => [some (.ref A_t), some (.int l1), some (.int l2), some (.int y)]) dX12_carry_96 rfl kc_1 (by decide) rfl (fun _ => rfl) (fun y96 e_y96 => ?_)
      replace hw := hw y96 e_y96
      refine a_goto (pc := 99) (tgt := 41) C dX12_carry_99 (by decide) ?_
      exact hkb _ _ _ _ _ _ hw
set_option maxRecDepth 20000 in
theorem m_X12_carry {X : Ctx} (C : Cok X cX12_carry 4 RX12 (rmL 0) Fz0) {pl : Pool} {A_t A_t_towns A_t_op A_t_arg : Nat} {U_t_thrown U_t_tape U_t_taped U_t_size U_t_sort U_t_place U_t_value U_t_at U_t_fault U_t_words U_t_codes U_t_facts U_t_pile U_t_shadeDay U_t_sun U_t_isShut U_t_sunny U_t_cost U_t_leastCost U_t_leastEnd U_t_wayOf U_t_wayMany U_t_whereAt U_t_reach U_t_likely U_t_crowdAt U_t_crowdBy U_t_crowdRounds U_t_bestSquare U_t_bestBy U_t_spotsMany U_t_spotAt U_t_followed U_t_followOf U_t_toldMany U_t_toldOf U_t_stepsTo U_t_reachOne U_t_isMarked U_t_markOf : Value} {t_towns : Nat → Int32} {t_op : Nat → Int32} {t_arg : Nat → Int32} {p1 : Int32} {p2 : Int32} {post : (Nat → Int32) → (Nat → Int32) → (Nat → Int32) → Prop} (hret : ∀ (w0 : Nat → Int32) (w1 : Nat → Int32) (w2 : Nat → Int32) (pc : Nat) (lo : List (Option Value)), post w0 w1 w2 → decode cX12_carry pc = .ok (.return_, 1) → AW X 4 0 0 (w_X12_carry (cxG X) A_t A_t_towns A_t_op A_t_arg U_t_thrown U_t_tape U_t_taped U_t_size U_t_sort U_t_place U_t_value U_t_at U_t_fault U_t_words U_t_codes U_t_facts U_t_pile U_t_shadeDay U_t_sun U_t_isShut U_t_sunny U_t_cost U_t_leastCost U_t_leastEnd U_t_wayOf U_t_wayMany U_t_whereAt U_t_reach U_t_likely U_t_crowdAt U_t_crowdBy U_t_crowdRounds U_t_bestSquare U_t_bestBy U_t_spotsMany U_t_spotAt U_t_followed U_t_followOf U_t_toldMany U_t_toldOf U_t_stepsTo U_t_reachOne U_t_isMarked U_t_markOf w0 w1 w2) pl pc lo []) (hw : wp_X12_carry t_towns t_op t_arg p1 p2 post) : AW X 4 0 0 (w_X12_carry (cxG X) A_t A_t_towns A_t_op A_t_arg U_t_thrown U_t_tape U_t_taped U_t_size U_t_sort U_t_place U_t_value U_t_at U_t_fault U_t_words U_t_codes U_t_facts U_t_pile U_t_shadeDay U_t_sun U_t_isShut U_t_sunny U_t_cost U_t_leastCost U_t_leastEnd U_t_wayOf U_t_wayMany U_t_whereAt U_t_reach U_t_likely U_t_crowdAt U_t_crowdBy U_t_crowdRounds U_t_bestSquare U_t_bestBy U_t_spotsMany U_t_spotAt U_t_followed U_t_followOf U_t_toldMany U_t_toldOf U_t_stepsTo U_t_reachOne U_t_isMarked U_t_markOf t_towns t_op t_arg) pl 0 [some (.ref A_t), some (.int p1), some (.int p2), none] [] := by
  refine a_iconst (pc := 0) C dX12_carry_0 kc_0 ?_
  refine s_istore_n (pc := 1) (i := 3) (lo' := [some (.ref A_t), some (.int p1), some (.int p2), some (.int 0)]) C dX12_carry_1 rfl (by decide) rfl rfl ?_
  obtain ⟨n2, hw⟩ := hw
  refine m_X12_carry_L2 C hret (fun t_towns t_op t_arg l1 l2 hw => ?_) n2 _ _ _ _ _ _ hw
  refine a_iconst (pc := 39) C dX12_carry_39 kc_0 ?_
  refine s_istore_n (pc := 40) (i := 3) (lo' := [some (.ref A_t), some (.int l1), some (.int l2), some (.int 0)]) C dX12_carry_40 rfl (by decide) rfl rfl ?_
  obtain ⟨n41, hw⟩ := hw
  refine m_X12_carry_L41 C hret (fun t_towns t_op t_arg hw => ?_) n41 _ _ _ _ _ _ hw
  exact hret _ _ _ _ _ hw dX12_carry_102
theorem c_X12_carry {l : Launch} {g : GG} {pl : Pool} (A_t A_t_towns A_t_op A_t_arg : Nat) (U_t_thrown U_t_tape U_t_taped U_t_size U_t_sort U_t_place U_t_value U_t_at U_t_fault U_t_words U_t_codes U_t_facts U_t_pile U_t_shadeDay U_t_sun U_t_isShut U_t_sunny U_t_cost U_t_leastCost U_t_leastEnd U_t_wayOf U_t_wayMany U_t_whereAt U_t_reach U_t_likely U_t_crowdAt U_t_crowdBy U_t_crowdRounds U_t_bestSquare U_t_bestBy U_t_spotsMany U_t_spotAt U_t_followed U_t_followOf U_t_toldMany U_t_toldOf U_t_stepsTo U_t_reachOne U_t_isMarked U_t_markOf : Value) {t_towns : Nat → Int32} {t_op : Nat → Int32} {t_arg : Nat → Int32} {p1 : Int32} {p2 : Int32} {post : (Nat → Int32) → (Nat → Int32) → (Nat → Int32) → Prop} (hw : wp_X12_carry t_towns t_op t_arg p1 p2 post) : MV l yX12_carry cX12_carry 4 (none : Option Jvm.ClassFile.FieldType) (rmL 0) g Fz0 [.ref A_t, .int p1, .int p2] (w_X12_carry g A_t A_t_towns A_t_op A_t_arg U_t_thrown U_t_tape U_t_taped U_t_size U_t_sort U_t_place U_t_value U_t_at U_t_fault U_t_words U_t_codes U_t_facts U_t_pile U_t_shadeDay U_t_sun U_t_isShut U_t_sunny U_t_cost U_t_leastCost U_t_leastEnd U_t_wayOf U_t_wayMany U_t_whereAt U_t_reach U_t_likely U_t_crowdAt U_t_crowdBy U_t_crowdRounds U_t_bestSquare U_t_bestBy U_t_spotsMany U_t_spotAt U_t_followed U_t_followOf U_t_toldMany U_t_toldOf U_t_stepsTo U_t_reachOne U_t_isMarked U_t_markOf t_towns t_op t_arg) pl (fun (u : (Nat → Int32) × (Nat → Int32) × (Nat → Int32)) => post u.1 u.2.1 u.2.2) (fun u => (w_X12_carry g A_t A_t_towns A_t_op A_t_arg U_t_thrown U_t_tape U_t_taped U_t_size U_t_sort U_t_place U_t_value U_t_at U_t_fault U_t_words U_t_codes U_t_facts U_t_pile U_t_shadeDay U_t_sun U_t_isShut U_t_sunny U_t_cost U_t_leastCost U_t_leastEnd U_t_wayOf U_t_wayMany U_t_whereAt U_t_reach U_t_likely U_t_crowdAt U_t_crowdBy U_t_crowdRounds U_t_bestSquare U_t_bestBy U_t_spotsMany U_t_spotAt U_t_followed U_t_followOf U_t_toldMany U_t_toldOf U_t_stepsTo U_t_reachOne U_t_isMarked U_t_markOf u.1 u.2.1 u.2.2)) (fun _ => pl) 0 0 := by
  refine met_v (own := RX12) rfl rfl (Nat.le_of_ble_eq_true rfl) (fun X hg hl C hini hret => ?_)
  subst hg
  subst hl
  exact m_X12_carry C (fun w0 w1 w2 pc lo hp hd => hret (w0, w1, w2) pc lo hp hd) hw
abbrev w_X12_emit (g : GG) (A_t A_t_op A_t_arg : Nat) (U_t_thrown U_t_tape U_t_taped U_t_size U_t_sort U_t_place U_t_value U_t_at U_t_fault U_t_words U_t_towns U_t_facts U_t_pile U_t_shadeDay U_t_sun U_t_isShut U_t_sunny U_t_cost U_t_leastCost U_t_leastEnd U_t_wayOf U_t_wayMany U_t_whereAt U_t_reach U_t_likely U_t_crowdAt U_t_crowdBy U_t_crowdRounds U_t_bestSquare U_t_bestBy U_t_spotsMany U_t_spotAt U_t_followed U_t_followOf U_t_toldMany U_t_toldOf U_t_stepsTo U_t_reachOne U_t_isMarked U_t_markOf : Value) (t_codes : Int32) (t_op : Nat → Int32) (t_arg : Nat → Int32) : va_W := [(A_t, ob 12 [U_t_thrown, U_t_tape, U_t_taped, U_t_size, U_t_sort, U_t_place, U_t_value, U_t_at, U_t_fault, U_t_words, U_t_towns, .ref A_t_op, .ref A_t_arg, .int t_codes, U_t_facts, U_t_pile, U_t_shadeDay, U_t_sun, U_t_isShut, U_t_sunny, U_t_cost, U_t_leastCost, U_t_leastEnd, U_t_wayOf, U_t_wayMany, U_t_whereAt, U_t_reach, U_t_likely, U_t_crowdAt, U_t_crowdBy, U_t_crowdRounds, U_t_bestSquare, U_t_bestBy, U_t_spotsMany, U_t_spotAt, U_t_followed, U_t_followOf, U_t_toldMany, U_t_toldOf, U_t_stepsTo, U_t_reachOne, U_t_isMarked, U_t_markOf]), (A_t_op, aI g 6600 t_op), (A_t_arg, aI g 6600 t_arg)]
set_option maxRecDepth 20000 in
theorem m_X12_emit {X : Ctx} (C : Cok X cX12_emit 3 RX12 (rmL 0) Fz0) {pl : Pool} {A_t A_t_op A_t_arg : Nat} {U_t_thrown U_t_tape U_t_taped U_t_size U_t_sort U_t_place U_t_value U_t_at U_t_fault U_t_words U_t_towns U_t_facts U_t_pile U_t_shadeDay U_t_sun U_t_isShut U_t_sunny U_t_cost U_t_leastCost U_t_leastEnd U_t_wayOf U_t_wayMany U_t_whereAt U_t_reach U_t_likely U_t_crowdAt U_t_crowdBy U_t_crowdRounds U_t_bestSquare U_t_bestBy U_t_spotsMany U_t_spotAt U_t_followed U_t_followOf U_t_toldMany U_t_toldOf U_t_stepsTo U_t_reachOne U_t_isMarked U_t_markOf : Value} {t_codes : Int32} {t_op : Nat → Int32} {t_arg : Nat → Int32} {p1 : Int32} {p2 : Int32} {post : Int32 → (Nat → Int32) → (Nat → Int32) → Prop} (hret : ∀ (w0 : Int32) (w1 : Nat → Int32) (w2 : Nat → Int32) (pc : Nat) (lo : List (Option Value)), post w0 w1 w2 → decode cX12_emit pc = .ok (.return_, 1) → AW X 3 0 0 (w_X12_emit (cxG X) A_t A_t_op A_t_arg U_t_thrown U_t_tape U_t_taped U_t_size U_t_sort U_t_place U_t_value U_t_at U_t_fault U_t_words U_t_towns U_t_facts U_t_pile U_t_shadeDay U_t_sun U_t_isShut U_t_sunny U_t_cost U_t_leastCost U_t_leastEnd U_t_wayOf U_t_wayMany U_t_whereAt U_t_reach U_t_likely U_t_crowdAt U_t_crowdBy U_t_crowdRounds U_t_bestSquare U_t_bestBy U_t_spotsMany U_t_spotAt U_t_followed U_t_followOf U_t_toldMany U_t_toldOf U_t_stepsTo U_t_reachOne U_t_isMarked U_t_markOf w0 w1 w2) pl pc lo []) (hw : wp_X12_emit t_codes t_op t_arg p1 p2 post) : AW X 3 0 0 (w_X12_emit (cxG X) A_t A_t_op A_t_arg U_t_thrown U_t_tape U_t_taped U_t_size U_t_sort U_t_place U_t_value U_t_at U_t_fault U_t_words U_t_towns U_t_facts U_t_pile U_t_shadeDay U_t_sun U_t_isShut U_t_sunny U_t_cost U_t_leastCost U_t_leastEnd U_t_wayOf U_t_wayMany U_t_whereAt U_t_reach U_t_likely U_t_crowdAt U_t_crowdBy U_t_crowdRounds U_t_bestSquare U_t_bestBy U_t_spotsMany U_t_spotAt U_t_followed U_t_followOf U_t_toldMany U_t_toldOf U_t_stepsTo U_t_reachOne U_t_isMarked U_t_markOf t_codes t_op t_arg) pl 0 [some (.ref A_t), some (.int p1), some (.int p2)] [] := by
  refine a_aload_n (pc := 0) (i := 0) C dX12_emit_0 rfl rfl ?_
  refine a_get (pc := 1) C fl_X12_100 dX12_emit_1 0 rfl rfl ?_
  refine a_sipush (pc := 4) C dX12_emit_4 ks_1100 ?_
  refine a_aload_n (pc := 7) (i := 0) C dX12_emit_7 rfl rfl ?_
  refine a_get (pc := 8) C fl_X12_218 dX12_emit_8 0 rfl rfl ?_
  refine a_iadd (pc := 11) C dX12_emit_11 ?_
  refine a_iload_n (pc := 12) (i := 1) C dX12_emit_12 rfl rfl ?_
  refine a_top2i (fun x13 e_x13 => ?_)
  replace hw := hw x13 e_x13
  obtain ⟨i_13, hw⟩ := hw
  refine a_iastW (pc := 13) C (fun h => (w_X12_emit (cxG X) A_t A_t_op A_t_arg U_t_thrown U_t_tape U_t_taped U_t_size U_t_sort U_t_place U_t_value U_t_at U_t_fault U_t_words U_t_towns U_t_facts U_t_pile U_t_shadeDay U_t_sun U_t_isShut U_t_sunny U_t_cost U_t_leastCost U_t_leastEnd U_t_wayOf U_t_wayMany U_t_whereAt U_t_reach U_t_likely U_t_crowdAt U_t_crowdBy U_t_crowdRounds U_t_bestSquare U_t_bestBy U_t_spotsMany U_t_spotAt U_t_followed U_t_followOf U_t_toldMany U_t_toldOf U_t_stepsTo U_t_reachOne U_t_isMarked U_t_markOf t_codes h t_arg)) dX12_emit_13 1 rfl i_13 (fun _ => rfl) (fun t_op_13 e_t_op_13 => ?_)
  replace hw := hw t_op_13 e_t_op_13
  refine a_aload_n (pc := 14) (i := 0) C dX12_emit_14 rfl rfl ?_
  refine a_get (pc := 15) C fl_X12_103 dX12_emit_15 0 rfl rfl ?_
  refine a_sipush (pc := 18) C dX12_emit_18 ks_1100 ?_
  refine a_aload_n (pc := 21) (i := 0) C dX12_emit_21 rfl rfl ?_
  refine a_get (pc := 22) C fl_X12_218 dX12_emit_22 0 rfl rfl ?_
  refine a_iadd (pc := 25) C dX12_emit_25 ?_
  refine a_iload_n (pc := 26) (i := 2) C dX12_emit_26 rfl rfl ?_
  refine a_top2i (fun x27 e_x27 => ?_)
  replace hw := hw x27 e_x27
  obtain ⟨i_27, hw⟩ := hw
  refine a_iastW (pc := 27) C (fun h => (w_X12_emit (cxG X) A_t A_t_op A_t_arg U_t_thrown U_t_tape U_t_taped U_t_size U_t_sort U_t_place U_t_value U_t_at U_t_fault U_t_words U_t_towns U_t_facts U_t_pile U_t_shadeDay U_t_sun U_t_isShut U_t_sunny U_t_cost U_t_leastCost U_t_leastEnd U_t_wayOf U_t_wayMany U_t_whereAt U_t_reach U_t_likely U_t_crowdAt U_t_crowdBy U_t_crowdRounds U_t_bestSquare U_t_bestBy U_t_spotsMany U_t_spotAt U_t_followed U_t_followOf U_t_toldMany U_t_toldOf U_t_stepsTo U_t_reachOne U_t_isMarked U_t_markOf t_codes t_op_13 h)) dX12_emit_27 2 rfl i_27 (fun _ => rfl) (fun t_arg_27 e_t_arg_27 => ?_)
  replace hw := hw t_arg_27 e_t_arg_27
  refine a_aload_n (pc := 28) (i := 0) C dX12_emit_28 rfl rfl ?_
  refine a_dup (pc := 29) C dX12_emit_29 rfl ?_
  refine a_get (pc := 30) C fl_X12_218 dX12_emit_30 0 rfl rfl ?_
  refine a_iconst (pc := 33) C dX12_emit_33 kc_1 ?_
  refine a_iadd (pc := 34) C dX12_emit_34 ?_
  refine a_topi (fun x35 e_x35 => ?_)
  replace hw := hw x35 e_x35
  refine a_putW (pc := 35) (ws' := (w_X12_emit (cxG X) A_t A_t_op A_t_arg U_t_thrown U_t_tape U_t_taped U_t_size U_t_sort U_t_place U_t_value U_t_at U_t_fault U_t_words U_t_towns U_t_facts U_t_pile U_t_shadeDay U_t_sun U_t_isShut U_t_sunny U_t_cost U_t_leastCost U_t_leastEnd U_t_wayOf U_t_wayMany U_t_whereAt U_t_reach U_t_likely U_t_crowdAt U_t_crowdBy U_t_crowdRounds U_t_bestSquare U_t_bestBy U_t_spotsMany U_t_spotAt U_t_followed U_t_followOf U_t_toldMany U_t_toldOf U_t_stepsTo U_t_reachOne U_t_isMarked U_t_markOf x35 t_op_13 t_arg_27)) C fl_X12_218 pu_12_13 dX12_emit_35 0 rfl rfl rfl (Nat.le_of_ble_eq_true rfl) rfl ?_
  exact hret _ _ _ _ _ hw dX12_emit_38
theorem c_X12_emit {l : Launch} {g : GG} {pl : Pool} (A_t A_t_op A_t_arg : Nat) (U_t_thrown U_t_tape U_t_taped U_t_size U_t_sort U_t_place U_t_value U_t_at U_t_fault U_t_words U_t_towns U_t_facts U_t_pile U_t_shadeDay U_t_sun U_t_isShut U_t_sunny U_t_cost U_t_leastCost U_t_leastEnd U_t_wayOf U_t_wayMany U_t_whereAt U_t_reach U_t_likely U_t_crowdAt U_t_crowdBy U_t_crowdRounds U_t_bestSquare U_t_bestBy U_t_spotsMany U_t_spotAt U_t_followed U_t_followOf U_t_toldMany U_t_toldOf U_t_stepsTo U_t_reachOne U_t_isMarked U_t_markOf : Value) {t_codes : Int32} {t_op : Nat → Int32} {t_arg : Nat → Int32} {p1 : Int32} {p2 : Int32} {post : Int32 → (Nat → Int32) → (Nat → Int32) → Prop} (hw : wp_X12_emit t_codes t_op t_arg p1 p2 post) : MV l yX12_emit cX12_emit 3 (none : Option Jvm.ClassFile.FieldType) (rmL 0) g Fz0 [.ref A_t, .int p1, .int p2] (w_X12_emit g A_t A_t_op A_t_arg U_t_thrown U_t_tape U_t_taped U_t_size U_t_sort U_t_place U_t_value U_t_at U_t_fault U_t_words U_t_towns U_t_facts U_t_pile U_t_shadeDay U_t_sun U_t_isShut U_t_sunny U_t_cost U_t_leastCost U_t_leastEnd U_t_wayOf U_t_wayMany U_t_whereAt U_t_reach U_t_likely U_t_crowdAt U_t_crowdBy U_t_crowdRounds U_t_bestSquare U_t_bestBy U_t_spotsMany U_t_spotAt U_t_followed U_t_followOf U_t_toldMany U_t_toldOf U_t_stepsTo U_t_reachOne U_t_isMarked U_t_markOf t_codes t_op t_arg) pl (fun (u : Int32 × (Nat → Int32) × (Nat → Int32)) => post u.1 u.2.1 u.2.2) (fun u => (w_X12_emit g A_t A_t_op A_t_arg U_t_thrown U_t_tape U_t_taped U_t_size U_t_sort U_t_place U_t_value U_t_at U_t_fault U_t_words U_t_towns U_t_facts U_t_pile U_t_shadeDay U_t_sun U_t_isShut U_t_sunny U_t_cost U_t_leastCost U_t_leastEnd U_t_wayOf U_t_wayMany U_t_whereAt U_t_reach U_t_likely U_t_crowdAt U_t_crowdBy U_t_crowdRounds U_t_bestSquare U_t_bestBy U_t_spotsMany U_t_spotAt U_t_followed U_t_followOf U_t_toldMany U_t_toldOf U_t_stepsTo U_t_reachOne U_t_isMarked U_t_markOf u.1 u.2.1 u.2.2)) (fun _ => pl) 0 0 := by
  refine met_v (own := RX12) rfl rfl (Nat.le_of_ble_eq_true rfl) (fun X hg hl C hini hret => ?_)
  subst hg
  subst hl
  exact m_X12_emit C (fun w0 w1 w2 pc lo hp hd => hret (w0, w1, w2) pc lo hp hd) hw
abbrev w_X12_readSun (g : GG) (A_t A_t_towns A_t_value A_t_place A_t_sort A_t_words : Nat) (U_t_thrown U_t_tape U_t_taped U_t_size U_t_op U_t_arg U_t_codes U_t_facts U_t_pile U_t_shadeDay U_t_sun U_t_isShut U_t_sunny U_t_cost U_t_leastCost U_t_leastEnd U_t_wayOf U_t_wayMany U_t_whereAt U_t_reach U_t_likely U_t_crowdAt U_t_crowdBy U_t_crowdRounds U_t_bestSquare U_t_bestBy U_t_spotsMany U_t_spotAt U_t_followed U_t_followOf U_t_toldMany U_t_toldOf U_t_stepsTo U_t_reachOne U_t_isMarked U_t_markOf : Value) (t_at : Int32) (t_fault : Int32) (t_towns : Nat → Int32) (t_value : Nat → Int64) (t_place : Nat → Int32) (t_sort : Nat → Int32) (t_words : Nat → Int64) : va_W := [(A_t, ob 12 [U_t_thrown, U_t_tape, U_t_taped, U_t_size, .ref A_t_sort, .ref A_t_place, .ref A_t_value, .int t_at, .int t_fault, .ref A_t_words, .ref A_t_towns, U_t_op, U_t_arg, U_t_codes, U_t_facts, U_t_pile, U_t_shadeDay, U_t_sun, U_t_isShut, U_t_sunny, U_t_cost, U_t_leastCost, U_t_leastEnd, U_t_wayOf, U_t_wayMany, U_t_whereAt, U_t_reach, U_t_likely, U_t_crowdAt, U_t_crowdBy, U_t_crowdRounds, U_t_bestSquare, U_t_bestBy, U_t_spotsMany, U_t_spotAt, U_t_followed, U_t_followOf, U_t_toldMany, U_t_toldOf, U_t_stepsTo, U_t_reachOne, U_t_isMarked, U_t_markOf]), (A_t_towns, aI g 2640 t_towns), (A_t_value, aJ g 1002 t_value), (A_t_place, aI g 1002 t_place), (A_t_sort, aI g 1002 t_sort), (A_t_words, aJ g 30 t_words)]
set_option maxRecDepth 20000 in
theorem m_X12_readSun_L49 {X : Ctx} (C : Cok X cX12_readSun 9 RX12 (rmL 3) Fz0) {pl : Pool} {A_t A_t_towns A_t_value A_t_place A_t_sort A_t_words : Nat} {U_t_thrown U_t_tape U_t_taped U_t_size U_t_op U_t_arg U_t_codes U_t_facts U_t_pile U_t_shadeDay U_t_sun U_t_isShut U_t_sunny U_t_cost U_t_leastCost U_t_leastEnd U_t_wayOf U_t_wayMany U_t_whereAt U_t_reach U_t_likely U_t_crowdAt U_t_crowdBy U_t_crowdRounds U_t_bestSquare U_t_bestBy U_t_spotsMany U_t_spotAt U_t_followed U_t_followOf U_t_toldMany U_t_toldOf U_t_stepsTo U_t_reachOne U_t_isMarked U_t_markOf : Value} {t_value : Nat → Int64} {t_place : Nat → Int32} {t_sort : Nat → Int32} {t_words : Nat → Int64} {post : Int32 → Int32 → (Nat → Int32) → Prop} (hret : ∀ (w0 : Int32) (w1 : Int32) (w2 : Nat → Int32) (pc : Nat) (lo : List (Option Value)), post w0 w1 w2 → decode cX12_readSun pc = .ok (.return_, 1) → AW X 9 0 0 (w_X12_readSun (cxG X) A_t A_t_towns A_t_value A_t_place A_t_sort A_t_words U_t_thrown U_t_tape U_t_taped U_t_size U_t_op U_t_arg U_t_codes U_t_facts U_t_pile U_t_shadeDay U_t_sun U_t_isShut U_t_sunny U_t_cost U_t_leastCost U_t_leastEnd U_t_wayOf U_t_wayMany U_t_whereAt U_t_reach U_t_likely U_t_crowdAt U_t_crowdBy U_t_crowdRounds U_t_bestSquare U_t_bestBy U_t_spotsMany U_t_spotAt U_t_followed U_t_followOf U_t_toldMany U_t_toldOf U_t_stepsTo U_t_reachOne U_t_isMarked U_t_markOf w0 w1 w2 t_value t_place t_sort t_words) pl pc lo []) {x_96 : Int32 → Int32 → (Nat → Int32) → Int32 → Int32 → Int32 → Prop} (hx_96 : ∀ (t_at : Int32) (t_fault : Int32) (t_towns : Nat → Int32) (l1 : Int32) (l2 : Int32) (l3 : Int32) , x_96 t_at t_fault t_towns l1 l2 l3 → AW X 9 0 0 (w_X12_readSun (cxG X) A_t A_t_towns A_t_value A_t_place A_t_sort A_t_words U_t_thrown U_t_tape U_t_taped U_t_size U_t_op U_t_arg U_t_codes U_t_facts U_t_pile U_t_shadeDay U_t_sun U_t_isShut U_t_sunny U_t_cost U_t_leastCost U_t_leastEnd U_t_wayOf U_t_wayMany U_t_whereAt U_t_reach U_t_likely U_t_crowdAt U_t_crowdBy U_t_crowdRounds U_t_bestSquare U_t_bestBy U_t_spotsMany U_t_spotAt U_t_followed U_t_followOf U_t_toldMany U_t_toldOf U_t_stepsTo U_t_reachOne U_t_isMarked U_t_markOf t_at t_fault t_towns t_value t_place t_sort t_words) pl 96 [some (.ref A_t), some (.int l1), some (.int l2), some (.int l3), none, none, none, none, none] []) : ∀ (n49 : Nat) (t_at : Int32) (t_fault : Int32) (t_towns : Nat → Int32) (l1 : Int32) (l2 : Int32) (l3 : Int32) (l4 : Int32) , lp (wp_X12_readSun_L49 x_96 t_value t_place t_sort t_words post) n49 (t_at, t_fault, t_towns, l1, l2, l3, l4) → AW X 9 0 0 (w_X12_readSun (cxG X) A_t A_t_towns A_t_value A_t_place A_t_sort A_t_words U_t_thrown U_t_tape U_t_taped U_t_size U_t_op U_t_arg U_t_codes U_t_facts U_t_pile U_t_shadeDay U_t_sun U_t_isShut U_t_sunny U_t_cost U_t_leastCost U_t_leastEnd U_t_wayOf U_t_wayMany U_t_whereAt U_t_reach U_t_likely U_t_crowdAt U_t_crowdBy U_t_crowdRounds U_t_bestSquare U_t_bestBy U_t_spotsMany U_t_spotAt U_t_followed U_t_followOf U_t_toldMany U_t_toldOf U_t_stepsTo U_t_reachOne U_t_isMarked U_t_markOf t_at t_fault t_towns t_value t_place t_sort t_words) pl 49 [some (.ref A_t), some (.int l1), some (.int l2), some (.int l3), some (.int l4), none, none, none, none] [] := by
  intro n49
  induction n49 with
  | zero => exact fun _ _ _ _ _ _ _ hw => hw.elim
  | succ n49 hkb =>
    intro t_at t_fault t_towns l1 l2 l3 l4 hw
    replace hw : wp_X12_readSun_L49 x_96 t_value t_place t_sort t_words post (lp (wp_X12_readSun_L49 x_96 t_value t_place t_sort t_words post) n49) (t_at, t_fault, t_towns, l1, l2, l3, l4) := hw
    generalize lp (wp_X12_readSun_L49 x_96 t_value t_place t_sort t_words post) n49 = kb at hw hkb
    refine a_iload (pc := 49) (i := 4) C dX12_readSun_49 rfl ?_
    refine a_iload_n (pc := 51) (i := 1) C dX12_readSun_51 rfl rfl ?_
    refine a_icmp_ge (pc := 52) (tgt := 96) C dX12_readSun_52 (by decide) (fun c_52 => ?_) (fun c_52 => ?_)
    · replace hw := hw.1 c_52
      refine a_msk [true, true, true, true, false, true, true, true, true] rfl ?_
      exact hx_96 _ _ _ _ _ _ hw
    · replace hw := hw.2 c_52
      refine a_sipush (pc := 55) C dX12_readSun_55 ks_702 ?_
      refine a_iconst (pc := 58) C dX12_readSun_58 kc_5 ?_
      refine a_iload (pc := 59) (i := 4) C dX12_readSun_59 rfl ?_
      refine a_imul (pc := 61) C dX12_readSun_61 ?_
      refine a_iadd (pc := 62) C dX12_readSun_62 ?_
      refine a_topi (fun x63 e_x63 => ?_)
      replace hw := hw x63 e_x63
      refine s_istore (pc := 63) (i := 5) (lo' := [some (.ref A_t), some (.int l1), some (.int l2), some (.int l3), some (.int l4), some (.int x63), none, none, none]) C dX12_readSun_63 (by decide) rfl rfl ?_
      refine a_aload_n (pc := 65) (i := 0) C dX12_readSun_65 rfl rfl ?_
      refine a_get (pc := 66) C fl_X12_97 dX12_readSun_66 0 rfl rfl ?_
      refine a_iload (pc := 69) (i := 5) C dX12_readSun_69 rfl ?_
      obtain ⟨i_71, hw⟩ := hw
      refine a_iald (pc := 71) C dX12_readSun_71 1 rfl i_71 ?_
      refine a_iload_n (pc := 72) (i := 2) C dX12_readSun_72 rfl rfl ?_
      refine a_icmp_ne (pc := 73) (tgt := 88) C dX12_readSun_73 (by decide) (fun c_73 => ?_) (fun c_73 => ?_)
      · replace hw := hw.1 c_73
        refine a_iload_n (pc := 88) (i := 3) C dX12_readSun_88 rfl rfl ?_
        refine s_istore_n (pc := 89) (i := 3) (lo' := [some (.ref A_t), some (.int l1), some (.int l2), some (.int l3), some (.int l4), some (.int x63), none, none, none]) C dX12_readSun_89 rfl (by decide) rfl rfl ?_
        refine a_inc (pc := 90) (i := 4) C (fun y => [some (.ref A_t), some (.int l1), some (.int l2), some (.int l3), some (.int y), some (.int x63), none, none, none]) dX12_readSun_90 rfl kc_1 (by decide) rfl (fun _ => rfl) (fun y90 e_y90 => ?_)
        replace hw := hw y90 e_y90
        refine a_goto (pc := 93) (tgt := 49) C dX12_readSun_93 (by decide) ?_
        refine a_msk [true, true, true, true, true, false, true, true, true] rfl ?_
        exact hkb _ _ _ _ _ _ _ hw
      · replace hw := hw.2 c_73
        refine a_aload_n (pc := 76) (i := 0) C dX12_readSun_76 rfl rfl ?_
        refine a_get (pc := 77) C fl_X12_97 dX12_readSun_77 0 rfl rfl ?_
        refine a_iload (pc := 80) (i := 5) C dX12_readSun_80 rfl ?_
        refine a_iconst (pc := 82) C dX12_readSun_82 kc_1 ?_
        refine a_iadd (pc := 83) C dX12_readSun_83 ?_
        refine a_topi (fun x84 e_x84 => ?_)
        replace hw := hw x84 e_x84
        obtain ⟨i_84, hw⟩ := hw
        refine a_iald (pc := 84) C dX12_readSun_84 1 rfl i_84 ?_
        refine a_goto (pc := 85) (tgt := 89) C dX12_readSun_85 (by decide) ?_
        refine a_topi (fun x89 e_x89 => ?_)
        replace hw := hw x89 e_x89
        refine s_istore_n (pc := 89) (i := 3) (lo' := [some (.ref A_t), some (.int l1), some (.int l2), some (.int x89), some (.int l4), some (.int x63), none, none, none]) C dX12_readSun_89 rfl (by decide) rfl rfl ?_
        refine a_inc (pc := 90) (i := 4) C (fun y => [some (.ref A_t), some (.int l1), some (.int l2), some (.int x89), some (.int y), some (.int x63), none, none, none]) dX12_readSun_90 rfl kc_1 (by decide) rfl (fun _ => rfl) (fun y90 e_y90 => ?_)
        replace hw := hw y90 e_y90
        refine a_goto (pc := 93) (tgt := 49) C dX12_readSun_93 (by decide) ?_
        refine a_msk [true, true, true, true, true, false, true, true, true] rfl ?_
        exact hkb _ _ _ _ _ _ _ hw
set_option maxRecDepth 20000 in
theorem m_X12_readSun_L151 {X : Ctx} (C : Cok X cX12_readSun 9 RX12 (rmL 3) Fz0) {pl : Pool} {A_t A_t_towns A_t_value A_t_place A_t_sort A_t_words : Nat} {U_t_thrown U_t_tape U_t_taped U_t_size U_t_op U_t_arg U_t_codes U_t_facts U_t_pile U_t_shadeDay U_t_sun U_t_isShut U_t_sunny U_t_cost U_t_leastCost U_t_leastEnd U_t_wayOf U_t_wayMany U_t_whereAt U_t_reach U_t_likely U_t_crowdAt U_t_crowdBy U_t_crowdRounds U_t_bestSquare U_t_bestBy U_t_spotsMany U_t_spotAt U_t_followed U_t_followOf U_t_toldMany U_t_toldOf U_t_stepsTo U_t_reachOne U_t_isMarked U_t_markOf : Value} {t_value : Nat → Int64} {t_place : Nat → Int32} {t_sort : Nat → Int32} {t_words : Nat → Int64} {post : Int32 → Int32 → (Nat → Int32) → Prop} (hret : ∀ (w0 : Int32) (w1 : Int32) (w2 : Nat → Int32) (pc : Nat) (lo : List (Option Value)), post w0 w1 w2 → decode cX12_readSun pc = .ok (.return_, 1) → AW X 9 0 0 (w_X12_readSun (cxG X) A_t A_t_towns A_t_value A_t_place A_t_sort A_t_words U_t_thrown U_t_tape U_t_taped U_t_size U_t_op U_t_arg U_t_codes U_t_facts U_t_pile U_t_shadeDay U_t_sun U_t_isShut U_t_sunny U_t_cost U_t_leastCost U_t_leastEnd U_t_wayOf U_t_wayMany U_t_whereAt U_t_reach U_t_likely U_t_crowdAt U_t_crowdBy U_t_crowdRounds U_t_bestSquare U_t_bestBy U_t_spotsMany U_t_spotAt U_t_followed U_t_followOf U_t_toldMany U_t_toldOf U_t_stepsTo U_t_reachOne U_t_isMarked U_t_markOf w0 w1 w2 t_value t_place t_sort t_words) pl pc lo []) {x_185 : Int32 → Int32 → (Nat → Int32) → Int32 → Int32 → Int32 → Int32 → Prop} (hx_185 : ∀ (t_at : Int32) (t_fault : Int32) (t_towns : Nat → Int32) (l1 : Int32) (l2 : Int32) (l4 : Int32) (l5 : Int32) , x_185 t_at t_fault t_towns l1 l2 l4 l5 → AW X 9 0 0 (w_X12_readSun (cxG X) A_t A_t_towns A_t_value A_t_place A_t_sort A_t_words U_t_thrown U_t_tape U_t_taped U_t_size U_t_op U_t_arg U_t_codes U_t_facts U_t_pile U_t_shadeDay U_t_sun U_t_isShut U_t_sunny U_t_cost U_t_leastCost U_t_leastEnd U_t_wayOf U_t_wayMany U_t_whereAt U_t_reach U_t_likely U_t_crowdAt U_t_crowdBy U_t_crowdRounds U_t_bestSquare U_t_bestBy U_t_spotsMany U_t_spotAt U_t_followed U_t_followOf U_t_toldMany U_t_toldOf U_t_stepsTo U_t_reachOne U_t_isMarked U_t_markOf t_at t_fault t_towns t_value t_place t_sort t_words) pl 185 [some (.ref A_t), some (.int l1), some (.int l2), none, some (.int l4), some (.int l5), none, none, none] []) : ∀ (n151 : Nat) (t_at : Int32) (t_fault : Int32) (t_towns : Nat → Int32) (l1 : Int32) (l2 : Int32) (l4 : Int32) (l5 : Int32) (l6 : Int32) , lp (wp_X12_readSun_L151 x_185 t_value t_place t_sort t_words post) n151 (t_at, t_fault, t_towns, l1, l2, l4, l5, l6) → AW X 9 0 0 (w_X12_readSun (cxG X) A_t A_t_towns A_t_value A_t_place A_t_sort A_t_words U_t_thrown U_t_tape U_t_taped U_t_size U_t_op U_t_arg U_t_codes U_t_facts U_t_pile U_t_shadeDay U_t_sun U_t_isShut U_t_sunny U_t_cost U_t_leastCost U_t_leastEnd U_t_wayOf U_t_wayMany U_t_whereAt U_t_reach U_t_likely U_t_crowdAt U_t_crowdBy U_t_crowdRounds U_t_bestSquare U_t_bestBy U_t_spotsMany U_t_spotAt U_t_followed U_t_followOf U_t_toldMany U_t_toldOf U_t_stepsTo U_t_reachOne U_t_isMarked U_t_markOf t_at t_fault t_towns t_value t_place t_sort t_words) pl 151 [some (.ref A_t), some (.int l1), some (.int l2), none, some (.int l4), some (.int l5), some (.int l6), none, none] [] := by
  intro n151
  induction n151 with
  | zero => exact fun _ _ _ _ _ _ _ _ hw => hw.elim
  | succ n151 hkb =>
    intro t_at t_fault t_towns l1 l2 l4 l5 l6 hw
    replace hw : wp_X12_readSun_L151 x_185 t_value t_place t_sort t_words post (lp (wp_X12_readSun_L151 x_185 t_value t_place t_sort t_words post) n151) (t_at, t_fault, t_towns, l1, l2, l4, l5, l6) := hw
    generalize lp (wp_X12_readSun_L151 x_185 t_value t_place t_sort t_words post) n151 = kb at hw hkb
    refine a_iload (pc := 151) (i := 6) C dX12_readSun_151 rfl ?_
    refine a_bipush (pc := 153) C dX12_readSun_153 kb_8 ?_
    refine a_icmp_ge (pc := 155) (tgt := 185) C dX12_readSun_155 (by decide) (fun c_155 => ?_) (fun c_155 => ?_)
    · replace hw := hw.1 c_155
      refine a_msk [true, true, true, true, true, true, false, true, true] rfl ?_
      exact hx_185 _ _ _ _ _ _ _ hw
    · replace hw := hw.2 c_155
      refine a_aload_n (pc := 158) (i := 0) C dX12_readSun_158 rfl rfl ?_
      refine a_bipush (pc := 159) C dX12_readSun_159 kb_10 ?_
      refine a_iload (pc := 161) (i := 6) C dX12_readSun_161 rfl ?_
      refine a_iadd (pc := 163) C dX12_readSun_163 ?_
      refine a_callVi (pc := 164) (As := [.int (10 + l6)]) (st := []) (ws' := (fun _ => (w_X12_readSun (cxG X) A_t A_t_towns A_t_value A_t_place A_t_sort A_t_words U_t_thrown U_t_tape U_t_taped U_t_size U_t_op U_t_arg U_t_codes U_t_facts U_t_pile U_t_shadeDay U_t_sun U_t_isShut U_t_sunny U_t_cost U_t_leastCost U_t_leastEnd U_t_wayOf U_t_wayMany U_t_whereAt U_t_reach U_t_likely U_t_crowdAt U_t_crowdBy U_t_crowdRounds U_t_bestSquare U_t_bestBy U_t_spotsMany U_t_spotAt U_t_followed U_t_followOf U_t_toldMany U_t_toldOf U_t_stepsTo U_t_reachOne U_t_isMarked U_t_markOf t_at t_fault t_towns t_value t_place t_sort t_words))) C (c_X12_isWord A_t A_t_sort A_t_value A_t_words U_t_thrown U_t_tape U_t_taped U_t_size (.ref A_t_place) (.ref A_t_towns) U_t_op U_t_arg U_t_codes U_t_facts U_t_pile U_t_shadeDay U_t_sun U_t_isShut U_t_sunny U_t_cost U_t_leastCost U_t_leastEnd U_t_wayOf U_t_wayMany U_t_whereAt U_t_reach U_t_likely U_t_crowdAt U_t_crowdBy U_t_crowdRounds U_t_bestSquare U_t_bestBy U_t_spotsMany U_t_spotAt U_t_followed U_t_followOf U_t_toldMany U_t_toldOf U_t_stepsTo U_t_reachOne U_t_isMarked U_t_markOf hw) dX12_readSun_164 mth_X12_isWord tml_X12_209 (fun _ _ h => trivial) Fz0_ok (rml (by decide) (by decide)) (Nat.le_of_ble_eq_true rfl) rfl rfl [0, 4, 2, 5] [1, 3] [2, 0, 4, 1, 3, 5] rfl rfl rfl rfl rfl rfl (ci := 12) rfl ⟨0, _, rfl⟩ (fun _ => rfl) rfl (fun _ => rfl) (fun r164 u hw => ?_)
      obtain ⟨z_164, hw⟩ := hw
      show AW X 9 0 0 (w_X12_readSun (cxG X) A_t A_t_towns A_t_value A_t_place A_t_sort A_t_words U_t_thrown U_t_tape U_t_taped U_t_size U_t_op U_t_arg U_t_codes U_t_facts U_t_pile U_t_shadeDay U_t_sun U_t_isShut U_t_sunny U_t_cost U_t_leastCost U_t_leastEnd U_t_wayOf U_t_wayMany U_t_whereAt U_t_reach U_t_likely U_t_crowdAt U_t_crowdBy U_t_crowdRounds U_t_bestSquare U_t_bestBy U_t_spotsMany U_t_spotAt U_t_followed U_t_followOf U_t_toldMany U_t_toldOf U_t_stepsTo U_t_reachOne U_t_isMarked U_t_markOf t_at t_fault t_towns t_value t_place t_sort t_words) pl 167 [some (.ref A_t), some (.int l1), some (.int l2), none, some (.int l4), some (.int l5), some (.int l6), none, none] [.int r164]
      refine a_if_eq (pc := 167) (tgt := 175) C dX12_readSun_167 (by decide) (fun c_167 => ?_) (fun c_167 => ?_)
      · replace hw := hw.1 c_167
        refine a_iload (pc := 175) (i := 5) C dX12_readSun_175 rfl ?_
        refine s_istore (pc := 177) (i := 5) (lo' := [some (.ref A_t), some (.int l1), some (.int l2), none, some (.int l4), some (.int l5), some (.int l6), none, none]) C dX12_readSun_177 (by decide) rfl rfl ?_
        refine a_inc (pc := 179) (i := 6) C (fun y => [some (.ref A_t), some (.int l1), some (.int l2), none, some (.int l4), some (.int l5), some (.int y), none, none]) dX12_readSun_179 rfl kc_1 (by decide) rfl (fun _ => rfl) (fun y179 e_y179 => ?_)
        replace hw := hw y179 e_y179
        refine a_goto (pc := 182) (tgt := 151) C dX12_readSun_182 (by decide) ?_
        exact hkb _ _ _ _ _ _ _ _ hw
      · replace hw := hw.2 c_167
        refine a_iload (pc := 170) (i := 6) C dX12_readSun_170 rfl ?_
        refine a_goto (pc := 172) (tgt := 177) C dX12_readSun_172 (by decide) ?_
        refine s_istore (pc := 177) (i := 5) (lo' := [some (.ref A_t), some (.int l1), some (.int l2), none, some (.int l4), some (.int l6), some (.int l6), none, none]) C dX12_readSun_177 (by decide) rfl rfl ?_
        refine a_inc (pc := 179) (i := 6) C (fun y => [some (.ref A_t), some (.int l1), some (.int l2), none, some (.int l4), some (.int l6), some (.int y), none, none]) dX12_readSun_179 rfl kc_1 (by decide) rfl (fun _ => rfl) (fun y179 e_y179 => ?_)
        replace hw := hw y179 e_y179
        refine a_goto (pc := 182) (tgt := 151) C dX12_readSun_182 (by decide) ?_
        exact hkb _ _ _ _ _ _ _ _ hw
set_option maxRecDepth 20000 in
theorem m_X12_readSun_b195 {X : Ctx} (C : Cok X cX12_readSun 9 RX12 (rmL 3) Fz0) {pl : Pool} {A_t A_t_towns A_t_value A_t_place A_t_sort A_t_words : Nat} {U_t_thrown U_t_tape U_t_taped U_t_size U_t_op U_t_arg U_t_codes U_t_facts U_t_pile U_t_shadeDay U_t_sun U_t_isShut U_t_sunny U_t_cost U_t_leastCost U_t_leastEnd U_t_wayOf U_t_wayMany U_t_whereAt U_t_reach U_t_likely U_t_crowdAt U_t_crowdBy U_t_crowdRounds U_t_bestSquare U_t_bestBy U_t_spotsMany U_t_spotAt U_t_followed U_t_followOf U_t_toldMany U_t_toldOf U_t_stepsTo U_t_reachOne U_t_isMarked U_t_markOf : Value} {t_value : Nat → Int64} {t_place : Nat → Int32} {t_sort : Nat → Int32} {t_words : Nat → Int64} {post : Int32 → Int32 → (Nat → Int32) → Prop} (hret : ∀ (w0 : Int32) (w1 : Int32) (w2 : Nat → Int32) (pc : Nat) (lo : List (Option Value)), post w0 w1 w2 → decode cX12_readSun pc = .ok (.return_, 1) → AW X 9 0 0 (w_X12_readSun (cxG X) A_t A_t_towns A_t_value A_t_place A_t_sort A_t_words U_t_thrown U_t_tape U_t_taped U_t_size U_t_op U_t_arg U_t_codes U_t_facts U_t_pile U_t_shadeDay U_t_sun U_t_isShut U_t_sunny U_t_cost U_t_leastCost U_t_leastEnd U_t_wayOf U_t_wayMany U_t_whereAt U_t_reach U_t_likely U_t_crowdAt U_t_crowdBy U_t_crowdRounds U_t_bestSquare U_t_bestBy U_t_spotsMany U_t_spotAt U_t_followed U_t_followOf U_t_toldMany U_t_toldOf U_t_stepsTo U_t_reachOne U_t_isMarked U_t_markOf w0 w1 w2 t_value t_place t_sort t_words) pl pc lo []) {t_at : Int32} {t_fault : Int32} {t_towns : Nat → Int32} {l1 : Int32} {l2 : Int32} {l4 : Int32} {l5 : Int32} (hw : wp_X12_readSun_b195  t_value t_place t_sort t_words post t_at t_fault t_towns l1 l2 l4 l5) : AW X 9 0 0 (w_X12_readSun (cxG X) A_t A_t_towns A_t_value A_t_place A_t_sort A_t_words U_t_thrown U_t_tape U_t_taped U_t_size U_t_op U_t_arg U_t_codes U_t_facts U_t_pile U_t_shadeDay U_t_sun U_t_isShut U_t_sunny U_t_cost U_t_leastCost U_t_leastEnd U_t_wayOf U_t_wayMany U_t_whereAt U_t_reach U_t_likely U_t_crowdAt U_t_crowdBy U_t_crowdRounds U_t_bestSquare U_t_bestBy U_t_spotsMany U_t_spotAt U_t_followed U_t_followOf U_t_toldMany U_t_toldOf U_t_stepsTo U_t_reachOne U_t_isMarked U_t_markOf t_at t_fault t_towns t_value t_place t_sort t_words) pl 195 [some (.ref A_t), some (.int l1), some (.int l2), none, some (.int l4), some (.int l5), none, none, none] [] := by
  refine a_aload_n (pc := 195) (i := 0) C dX12_readSun_195 rfl rfl ?_
  refine a_get (pc := 196) C fl_X12_199 dX12_readSun_196 0 rfl rfl ?_
  refine a_if_le (pc := 199) (tgt := 203) C dX12_readSun_199 (by decide) (fun c_199 => ?_) (fun c_199 => ?_)
  · replace hw := hw.1 c_199
    refine a_aload_n (pc := 203) (i := 0) C dX12_readSun_203 rfl rfl ?_
    refine a_dup (pc := 204) C dX12_readSun_204 rfl ?_
    refine a_get (pc := 205) C fl_X12_196 dX12_readSun_205 0 rfl rfl ?_
    refine a_iconst (pc := 208) C dX12_readSun_208 kc_1 ?_
    refine a_iadd (pc := 209) C dX12_readSun_209 ?_
    refine a_topi (fun x210 e_x210 => ?_)
    replace hw := hw x210 e_x210
    refine a_putW (pc := 210) (ws' := (w_X12_readSun (cxG X) A_t A_t_towns A_t_value A_t_place A_t_sort A_t_words U_t_thrown U_t_tape U_t_taped U_t_size U_t_op U_t_arg U_t_codes U_t_facts U_t_pile U_t_shadeDay U_t_sun U_t_isShut U_t_sunny U_t_cost U_t_leastCost U_t_leastEnd U_t_wayOf U_t_wayMany U_t_whereAt U_t_reach U_t_likely U_t_crowdAt U_t_crowdBy U_t_crowdRounds U_t_bestSquare U_t_bestBy U_t_spotsMany U_t_spotAt U_t_followed U_t_followOf U_t_toldMany U_t_toldOf U_t_stepsTo U_t_reachOne U_t_isMarked U_t_markOf x210 t_fault t_towns t_value t_place t_sort t_words)) C fl_X12_196 pu_12_7 dX12_readSun_210 0 rfl rfl rfl (Nat.le_of_ble_eq_true rfl) rfl ?_
    refine a_aload_n (pc := 213) (i := 0) C dX12_readSun_213 rfl rfl ?_
    refine a_iconst (pc := 214) C dX12_readSun_214 kc_1 ?_
    refine a_bipush (pc := 215) C dX12_readSun_215 kb_99 ?_
    refine a_callVi (pc := 217) (As := [.int 1, .int 99]) (st := []) (ws' := (fun u => (w_X12_readSun (cxG X) A_t A_t_towns A_t_value A_t_place A_t_sort A_t_words U_t_thrown U_t_tape U_t_taped U_t_size U_t_op U_t_arg U_t_codes U_t_facts U_t_pile U_t_shadeDay U_t_sun U_t_isShut U_t_sunny U_t_cost U_t_leastCost U_t_leastEnd U_t_wayOf U_t_wayMany U_t_whereAt U_t_reach U_t_likely U_t_crowdAt U_t_crowdBy U_t_crowdRounds U_t_bestSquare U_t_bestBy U_t_spotsMany U_t_spotAt U_t_followed U_t_followOf U_t_toldMany U_t_toldOf U_t_stepsTo U_t_reachOne U_t_isMarked U_t_markOf u.1 u.2 t_towns t_value t_place t_sort t_words))) C (c_X12_takeNumber A_t A_t_value A_t_place A_t_sort U_t_thrown U_t_tape U_t_taped U_t_size (.ref A_t_words) (.ref A_t_towns) U_t_op U_t_arg U_t_codes U_t_facts U_t_pile U_t_shadeDay U_t_sun U_t_isShut U_t_sunny U_t_cost U_t_leastCost U_t_leastEnd U_t_wayOf U_t_wayMany U_t_whereAt U_t_reach U_t_likely U_t_crowdAt U_t_crowdBy U_t_crowdRounds U_t_bestSquare U_t_bestBy U_t_spotsMany U_t_spotAt U_t_followed U_t_followOf U_t_toldMany U_t_toldOf U_t_stepsTo U_t_reachOne U_t_isMarked U_t_markOf hw) dX12_readSun_217 mth_X12_takeNumber tml_X12_255 (fun _ _ h => trivial) Fz0_ok (rml (by decide) (by decide)) (Nat.le_of_ble_eq_true rfl) rfl rfl [0, 2, 3, 4] [1, 5] [2, 0, 3, 4, 5, 1] rfl rfl rfl rfl rfl rfl (ci := 12) rfl ⟨0, _, rfl⟩ (fun _ => rfl) rfl (fun _ => rfl) (fun r217 u hw => ?_)
    obtain ⟨t_at_217, t_fault_217⟩ := u
    dsimp only at hw
    show AW X 9 0 0 (w_X12_readSun (cxG X) A_t A_t_towns A_t_value A_t_place A_t_sort A_t_words U_t_thrown U_t_tape U_t_taped U_t_size U_t_op U_t_arg U_t_codes U_t_facts U_t_pile U_t_shadeDay U_t_sun U_t_isShut U_t_sunny U_t_cost U_t_leastCost U_t_leastEnd U_t_wayOf U_t_wayMany U_t_whereAt U_t_reach U_t_likely U_t_crowdAt U_t_crowdBy U_t_crowdRounds U_t_bestSquare U_t_bestBy U_t_spotsMany U_t_spotAt U_t_followed U_t_followOf U_t_toldMany U_t_toldOf U_t_stepsTo U_t_reachOne U_t_isMarked U_t_markOf t_at_217 t_fault_217 t_towns t_value t_place t_sort t_words) pl 220 [some (.ref A_t), some (.int l1), some (.int l2), none, some (.int l4), some (.int l5), none, none, none] [.int r217]
    refine s_istore (pc := 220) (i := 6) (lo' := [some (.ref A_t), some (.int l1), some (.int l2), none, some (.int l4), some (.int l5), some (.int r217), none, none]) C dX12_readSun_220 (by decide) rfl rfl ?_
    refine a_aload_n (pc := 222) (i := 0) C dX12_readSun_222 rfl rfl ?_
    refine a_bipush (pc := 223) C dX12_readSun_223 kb_9 ?_
    refine a_callVv (pc := 225) (As := [.int 9]) (st := []) (ws' := (fun u => (w_X12_readSun (cxG X) A_t A_t_towns A_t_value A_t_place A_t_sort A_t_words U_t_thrown U_t_tape U_t_taped U_t_size U_t_op U_t_arg U_t_codes U_t_facts U_t_pile U_t_shadeDay U_t_sun U_t_isShut U_t_sunny U_t_cost U_t_leastCost U_t_leastEnd U_t_wayOf U_t_wayMany U_t_whereAt U_t_reach U_t_likely U_t_crowdAt U_t_crowdBy U_t_crowdRounds U_t_bestSquare U_t_bestBy U_t_spotsMany U_t_spotAt U_t_followed U_t_followOf U_t_toldMany U_t_toldOf U_t_stepsTo U_t_reachOne U_t_isMarked U_t_markOf u.1 u.2 t_towns t_value t_place t_sort t_words))) C (c_X12_takeWord A_t A_t_sort A_t_value A_t_words A_t_place U_t_thrown U_t_tape U_t_taped U_t_size (.ref A_t_towns) U_t_op U_t_arg U_t_codes U_t_facts U_t_pile U_t_shadeDay U_t_sun U_t_isShut U_t_sunny U_t_cost U_t_leastCost U_t_leastEnd U_t_wayOf U_t_wayMany U_t_whereAt U_t_reach U_t_likely U_t_crowdAt U_t_crowdBy U_t_crowdRounds U_t_bestSquare U_t_bestBy U_t_spotsMany U_t_spotAt U_t_followed U_t_followOf U_t_toldMany U_t_toldOf U_t_stepsTo U_t_reachOne U_t_isMarked U_t_markOf hw) dX12_readSun_225 mth_X12_takeWord tml_X12_259 (fun _ _ h => trivial) Fz0_ok (rml (by decide) (by decide)) (Nat.le_of_ble_eq_true rfl) rfl rfl [0, 4, 2, 5, 3] [1] [1, 0, 3, 5, 2, 4] rfl rfl rfl rfl rfl rfl (ci := 12) rfl ⟨0, _, rfl⟩ (fun _ => rfl) rfl (fun _ => rfl) (fun u hw => ?_)
    obtain ⟨t_at_225, t_fault_225⟩ := u
    dsimp only at hw
    show AW X 9 0 0 (w_X12_readSun (cxG X) A_t A_t_towns A_t_value A_t_place A_t_sort A_t_words U_t_thrown U_t_tape U_t_taped U_t_size U_t_op U_t_arg U_t_codes U_t_facts U_t_pile U_t_shadeDay U_t_sun U_t_isShut U_t_sunny U_t_cost U_t_leastCost U_t_leastEnd U_t_wayOf U_t_wayMany U_t_whereAt U_t_reach U_t_likely U_t_crowdAt U_t_crowdBy U_t_crowdRounds U_t_bestSquare U_t_bestBy U_t_spotsMany U_t_spotAt U_t_followed U_t_followOf U_t_toldMany U_t_toldOf U_t_stepsTo U_t_reachOne U_t_isMarked U_t_markOf t_at_225 t_fault_225 t_towns t_value t_place t_sort t_words) pl 228 [some (.ref A_t), some (.int l1), some (.int l2), none, some (.int l4), some (.int l5), some (.int r217), none, none] []
    refine a_aload_n (pc := 228) (i := 0) C dX12_readSun_228 rfl rfl ?_
    refine a_iconst (pc := 229) C dX12_readSun_229 kc_1 ?_
    refine a_bipush (pc := 230) C dX12_readSun_230 kb_99 ?_
    refine a_callVi (pc := 232) (As := [.int 1, .int 99]) (st := []) (ws' := (fun u => (w_X12_readSun (cxG X) A_t A_t_towns A_t_value A_t_place A_t_sort A_t_words U_t_thrown U_t_tape U_t_taped U_t_size U_t_op U_t_arg U_t_codes U_t_facts U_t_pile U_t_shadeDay U_t_sun U_t_isShut U_t_sunny U_t_cost U_t_leastCost U_t_leastEnd U_t_wayOf U_t_wayMany U_t_whereAt U_t_reach U_t_likely U_t_crowdAt U_t_crowdBy U_t_crowdRounds U_t_bestSquare U_t_bestBy U_t_spotsMany U_t_spotAt U_t_followed U_t_followOf U_t_toldMany U_t_toldOf U_t_stepsTo U_t_reachOne U_t_isMarked U_t_markOf u.1 u.2 t_towns t_value t_place t_sort t_words))) C (c_X12_takeNumber A_t A_t_value A_t_place A_t_sort U_t_thrown U_t_tape U_t_taped U_t_size (.ref A_t_words) (.ref A_t_towns) U_t_op U_t_arg U_t_codes U_t_facts U_t_pile U_t_shadeDay U_t_sun U_t_isShut U_t_sunny U_t_cost U_t_leastCost U_t_leastEnd U_t_wayOf U_t_wayMany U_t_whereAt U_t_reach U_t_likely U_t_crowdAt U_t_crowdBy U_t_crowdRounds U_t_bestSquare U_t_bestBy U_t_spotsMany U_t_spotAt U_t_followed U_t_followOf U_t_toldMany U_t_toldOf U_t_stepsTo U_t_reachOne U_t_isMarked U_t_markOf hw) dX12_readSun_232 mth_X12_takeNumber tml_X12_255 (fun _ _ h => trivial) Fz0_ok (rml (by decide) (by decide)) (Nat.le_of_ble_eq_true rfl) rfl rfl [0, 2, 3, 4] [1, 5] [2, 0, 3, 4, 5, 1] rfl rfl rfl rfl rfl rfl (ci := 12) rfl ⟨0, _, rfl⟩ (fun _ => rfl) rfl (fun _ => rfl) (fun r232 u hw => ?_)
    obtain ⟨t_at_232, t_fault_232⟩ := u
    dsimp only at hw
    show AW X 9 0 0 (w_X12_readSun (cxG X) A_t A_t_towns A_t_value A_t_place A_t_sort A_t_words U_t_thrown U_t_tape U_t_taped U_t_size U_t_op U_t_arg U_t_codes U_t_facts U_t_pile U_t_shadeDay U_t_sun U_t_isShut U_t_sunny U_t_cost U_t_leastCost U_t_leastEnd U_t_wayOf U_t_wayMany U_t_whereAt U_t_reach U_t_likely U_t_crowdAt U_t_crowdBy U_t_crowdRounds U_t_bestSquare U_t_bestBy U_t_spotsMany U_t_spotAt U_t_followed U_t_followOf U_t_toldMany U_t_toldOf U_t_stepsTo U_t_reachOne U_t_isMarked U_t_markOf t_at_232 t_fault_232 t_towns t_value t_place t_sort t_words) pl 235 [some (.ref A_t), some (.int l1), some (.int l2), none, some (.int l4), some (.int l5), some (.int r217), none, none] [.int r232]
    refine s_istore (pc := 235) (i := 7) (lo' := [some (.ref A_t), some (.int l1), some (.int l2), none, some (.int l4), some (.int l5), some (.int r217), some (.int r232), none]) C dX12_readSun_235 (by decide) rfl rfl ?_
    refine a_sipush (pc := 237) C dX12_readSun_237 ks_702 ?_
    refine a_iconst (pc := 240) C dX12_readSun_240 kc_5 ?_
    refine a_iload_n (pc := 241) (i := 1) C dX12_readSun_241 rfl rfl ?_
    refine a_imul (pc := 242) C dX12_readSun_242 ?_
    refine a_iadd (pc := 243) C dX12_readSun_243 ?_
    refine a_topi (fun x244 e_x244 => ?_)
    replace hw := hw x244 e_x244
    refine s_istore (pc := 244) (i := 8) (lo' := [some (.ref A_t), some (.int l1), some (.int l2), none, some (.int l4), some (.int l5), some (.int r217), some (.int r232), some (.int x244)]) C dX12_readSun_244 (by decide) rfl rfl ?_
    refine a_aload_n (pc := 246) (i := 0) C dX12_readSun_246 rfl rfl ?_
    refine a_get (pc := 247) C fl_X12_97 dX12_readSun_247 0 rfl rfl ?_
    refine a_iload (pc := 250) (i := 8) C dX12_readSun_250 rfl ?_
    refine a_iload_n (pc := 252) (i := 2) C dX12_readSun_252 rfl rfl ?_
    obtain ⟨i_253, hw⟩ := hw
    refine a_iastW (pc := 253) C (fun h => (w_X12_readSun (cxG X) A_t A_t_towns A_t_value A_t_place A_t_sort A_t_words U_t_thrown U_t_tape U_t_taped U_t_size U_t_op U_t_arg U_t_codes U_t_facts U_t_pile U_t_shadeDay U_t_sun U_t_isShut U_t_sunny U_t_cost U_t_leastCost U_t_leastEnd U_t_wayOf U_t_wayMany U_t_whereAt U_t_reach U_t_likely U_t_crowdAt U_t_crowdBy U_t_crowdRounds U_t_bestSquare U_t_bestBy U_t_spotsMany U_t_spotAt U_t_followed U_t_followOf U_t_toldMany U_t_toldOf U_t_stepsTo U_t_reachOne U_t_isMarked U_t_markOf t_at_232 t_fault_232 h t_value t_place t_sort t_words)) dX12_readSun_253 1 rfl i_253 (fun _ => rfl) (fun t_towns_253 e_t_towns_253 => ?_)
    replace hw := hw t_towns_253 e_t_towns_253
    refine a_aload_n (pc := 254) (i := 0) C dX12_readSun_254 rfl rfl ?_
    refine a_get (pc := 255) C fl_X12_97 dX12_readSun_255 0 rfl rfl ?_
    refine a_iload (pc := 258) (i := 8) C dX12_readSun_258 rfl ?_
    refine a_iconst (pc := 260) C dX12_readSun_260 kc_1 ?_
    refine a_iadd (pc := 261) C dX12_readSun_261 ?_
    refine a_iload (pc := 262) (i := 4) C dX12_readSun_262 rfl ?_
    refine a_top2i (fun x264 e_x264 => ?_)
    replace hw := hw x264 e_x264
    obtain ⟨i_264, hw⟩ := hw
    refine a_iastW (pc := 264) C (fun h => (w_X12_readSun (cxG X) A_t A_t_towns A_t_value A_t_place A_t_sort A_t_words U_t_thrown U_t_tape U_t_taped U_t_size U_t_op U_t_arg U_t_codes U_t_facts U_t_pile U_t_shadeDay U_t_sun U_t_isShut U_t_sunny U_t_cost U_t_leastCost U_t_leastEnd U_t_wayOf U_t_wayMany U_t_whereAt U_t_reach U_t_likely U_t_crowdAt U_t_crowdBy U_t_crowdRounds U_t_bestSquare U_t_bestBy U_t_spotsMany U_t_spotAt U_t_followed U_t_followOf U_t_toldMany U_t_toldOf U_t_stepsTo U_t_reachOne U_t_isMarked U_t_markOf t_at_232 t_fault_232 h t_value t_place t_sort t_words)) dX12_readSun_264 1 rfl i_264 (fun _ => rfl) (fun t_towns_264 e_t_towns_264 => ?_)
    replace hw := hw t_towns_264 e_t_towns_264
    refine a_aload_n (pc := 265) (i := 0) C dX12_readSun_265 rfl rfl ?_
    refine a_get (pc := 266) C fl_X12_97 dX12_readSun_266 0 rfl rfl ?_
    refine a_iload (pc := 269) (i := 8) C dX12_readSun_269 rfl ?_
    refine a_iconst (pc := 271) C dX12_readSun_271 kc_2 ?_
    refine a_iadd (pc := 272) C dX12_readSun_272 ?_
    refine a_iload (pc := 273) (i := 5) C dX12_readSun_273 rfl ?_
    refine a_top2i (fun x275 e_x275 => ?_)
    replace hw := hw x275 e_x275
    obtain ⟨i_275, hw⟩ := hw
    refine a_iastW (pc := 275) C (fun h => (w_X12_readSun (cxG X) A_t A_t_towns A_t_value A_t_place A_t_sort A_t_words U_t_thrown U_t_tape U_t_taped U_t_size U_t_op U_t_arg U_t_codes U_t_facts U_t_pile U_t_shadeDay U_t_sun U_t_isShut U_t_sunny U_t_cost U_t_leastCost U_t_leastEnd U_t_wayOf U_t_wayMany U_t_whereAt U_t_reach U_t_likely U_t_crowdAt U_t_crowdBy U_t_crowdRounds U_t_bestSquare U_t_bestBy U_t_spotsMany U_t_spotAt U_t_followed U_t_followOf U_t_toldMany U_t_toldOf U_t_stepsTo U_t_reachOne U_t_isMarked U_t_markOf t_at_232 t_fault_232 h t_value t_place t_sort t_words)) dX12_readSun_275 1 rfl i_275 (fun _ => rfl) (fun t_towns_275 e_t_towns_275 => ?_)
    replace hw := hw t_towns_275 e_t_towns_275
    refine a_aload_n (pc := 276) (i := 0) C dX12_readSun_276 rfl rfl ?_
    refine a_get (pc := 277) C fl_X12_97 dX12_readSun_277 0 rfl rfl ?_
    refine a_iload (pc := 280) (i := 8) C dX12_readSun_280 rfl ?_
    refine a_iconst (pc := 282) C dX12_readSun_282 kc_3 ?_
    refine a_iadd (pc := 283) C dX12_readSun_283 ?_
    refine a_iload (pc := 284) (i := 6) C dX12_readSun_284 rfl ?_
    refine a_top2i (fun x286 e_x286 => ?_)
    replace hw := hw x286 e_x286
    obtain ⟨i_286, hw⟩ := hw
    refine a_iastW (pc := 286) C (fun h => (w_X12_readSun (cxG X) A_t A_t_towns A_t_value A_t_place A_t_sort A_t_words U_t_thrown U_t_tape U_t_taped U_t_size U_t_op U_t_arg U_t_codes U_t_facts U_t_pile U_t_shadeDay U_t_sun U_t_isShut U_t_sunny U_t_cost U_t_leastCost U_t_leastEnd U_t_wayOf U_t_wayMany U_t_whereAt U_t_reach U_t_likely U_t_crowdAt U_t_crowdBy U_t_crowdRounds U_t_bestSquare U_t_bestBy U_t_spotsMany U_t_spotAt U_t_followed U_t_followOf U_t_toldMany U_t_toldOf U_t_stepsTo U_t_reachOne U_t_isMarked U_t_markOf t_at_232 t_fault_232 h t_value t_place t_sort t_words)) dX12_readSun_286 1 rfl i_286 (fun _ => rfl) (fun t_towns_286 e_t_towns_286 => ?_)
    replace hw := hw t_towns_286 e_t_towns_286
    refine a_aload_n (pc := 287) (i := 0) C dX12_readSun_287 rfl rfl ?_
    refine a_get (pc := 288) C fl_X12_97 dX12_readSun_288 0 rfl rfl ?_
    refine a_iload (pc := 291) (i := 8) C dX12_readSun_291 rfl ?_
    refine a_iconst (pc := 293) C dX12_readSun_293 kc_4 ?_
    refine a_iadd (pc := 294) C dX12_readSun_294 ?_
    refine a_iload (pc := 295) (i := 7) C dX12_readSun_295 rfl ?_
    refine a_top2i (fun x297 e_x297 => ?_)
    replace hw := hw x297 e_x297
    obtain ⟨i_297, hw⟩ := hw
    refine a_iastW (pc := 297) C (fun h => (w_X12_readSun (cxG X) A_t A_t_towns A_t_value A_t_place A_t_sort A_t_words U_t_thrown U_t_tape U_t_taped U_t_size U_t_op U_t_arg U_t_codes U_t_facts U_t_pile U_t_shadeDay U_t_sun U_t_isShut U_t_sunny U_t_cost U_t_leastCost U_t_leastEnd U_t_wayOf U_t_wayMany U_t_whereAt U_t_reach U_t_likely U_t_crowdAt U_t_crowdBy U_t_crowdRounds U_t_bestSquare U_t_bestBy U_t_spotsMany U_t_spotAt U_t_followed U_t_followOf U_t_toldMany U_t_toldOf U_t_stepsTo U_t_reachOne U_t_isMarked U_t_markOf t_at_232 t_fault_232 h t_value t_place t_sort t_words)) dX12_readSun_297 1 rfl i_297 (fun _ => rfl) (fun t_towns_297 e_t_towns_297 => ?_)
    replace hw := hw t_towns_297 e_t_towns_297
    refine a_aload_n (pc := 298) (i := 0) C dX12_readSun_298 rfl rfl ?_
    refine a_get (pc := 299) C fl_X12_97 dX12_readSun_299 0 rfl rfl ?_
    refine a_sipush (pc := 302) C dX12_readSun_302 ks_701 ?_
    refine a_dup2_11 (pc := 305) C dX12_readSun_305 rfl rfl ?_
    obtain ⟨i_306, hw⟩ := hw
    refine a_iald (pc := 306) C dX12_readSun_306 1 rfl i_306 ?_
    refine a_iconst (pc := 307) C dX12_readSun_307 kc_1 ?_
    refine a_iadd (pc := 308) C dX12_readSun_308 ?_
    refine a_topi (fun x309 e_x309 => ?_)
    replace hw := hw x309 e_x309
    obtain ⟨i_309, hw⟩ := hw
    refine a_iastW (pc := 309) C (fun h => (w_X12_readSun (cxG X) A_t A_t_towns A_t_value A_t_place A_t_sort A_t_words U_t_thrown U_t_tape U_t_taped U_t_size U_t_op U_t_arg U_t_codes U_t_facts U_t_pile U_t_shadeDay U_t_sun U_t_isShut U_t_sunny U_t_cost U_t_leastCost U_t_leastEnd U_t_wayOf U_t_wayMany U_t_whereAt U_t_reach U_t_likely U_t_crowdAt U_t_crowdBy U_t_crowdRounds U_t_bestSquare U_t_bestBy U_t_spotsMany U_t_spotAt U_t_followed U_t_followOf U_t_toldMany U_t_toldOf U_t_stepsTo U_t_reachOne U_t_isMarked U_t_markOf t_at_232 t_fault_232 h t_value t_place t_sort t_words)) dX12_readSun_309 1 rfl i_309 (fun _ => rfl) (fun t_towns_309 e_t_towns_309 => ?_)
    replace hw := hw t_towns_309 e_t_towns_309
    exact hret _ _ _ _ _ hw dX12_readSun_310
  · replace hw := hw.2 c_199
    exact hret _ _ _ _ _ hw dX12_readSun_202
set_option maxRecDepth 20000 in
theorem m_X12_readSun_b136 {X : Ctx} (C : Cok X cX12_readSun 9 RX12 (rmL 3) Fz0) {pl : Pool} {A_t A_t_towns A_t_value A_t_place A_t_sort A_t_words : Nat} {U_t_thrown U_t_tape U_t_taped U_t_size U_t_op U_t_arg U_t_codes U_t_facts U_t_pile U_t_shadeDay U_t_sun U_t_isShut U_t_sunny U_t_cost U_t_leastCost U_t_leastEnd U_t_wayOf U_t_wayMany U_t_whereAt U_t_reach U_t_likely U_t_crowdAt U_t_crowdBy U_t_crowdRounds U_t_bestSquare U_t_bestBy U_t_spotsMany U_t_spotAt U_t_followed U_t_followOf U_t_toldMany U_t_toldOf U_t_stepsTo U_t_reachOne U_t_isMarked U_t_markOf : Value} {t_value : Nat → Int64} {t_place : Nat → Int32} {t_sort : Nat → Int32} {t_words : Nat → Int64} {post : Int32 → Int32 → (Nat → Int32) → Prop} (hret : ∀ (w0 : Int32) (w1 : Int32) (w2 : Nat → Int32) (pc : Nat) (lo : List (Option Value)), post w0 w1 w2 → decode cX12_readSun pc = .ok (.return_, 1) → AW X 9 0 0 (w_X12_readSun (cxG X) A_t A_t_towns A_t_value A_t_place A_t_sort A_t_words U_t_thrown U_t_tape U_t_taped U_t_size U_t_op U_t_arg U_t_codes U_t_facts U_t_pile U_t_shadeDay U_t_sun U_t_isShut U_t_sunny U_t_cost U_t_leastCost U_t_leastEnd U_t_wayOf U_t_wayMany U_t_whereAt U_t_reach U_t_likely U_t_crowdAt U_t_crowdBy U_t_crowdRounds U_t_bestSquare U_t_bestBy U_t_spotsMany U_t_spotAt U_t_followed U_t_followOf U_t_toldMany U_t_toldOf U_t_stepsTo U_t_reachOne U_t_isMarked U_t_markOf w0 w1 w2 t_value t_place t_sort t_words) pl pc lo []) {t_at : Int32} {t_fault : Int32} {t_towns : Nat → Int32} {l1 : Int32} {l2 : Int32} (hw : wp_X12_readSun_b136  t_value t_place t_sort t_words post t_at t_fault t_towns l1 l2) : AW X 9 0 0 (w_X12_readSun (cxG X) A_t A_t_towns A_t_value A_t_place A_t_sort A_t_words U_t_thrown U_t_tape U_t_taped U_t_size U_t_op U_t_arg U_t_codes U_t_facts U_t_pile U_t_shadeDay U_t_sun U_t_isShut U_t_sunny U_t_cost U_t_leastCost U_t_leastEnd U_t_wayOf U_t_wayMany U_t_whereAt U_t_reach U_t_likely U_t_crowdAt U_t_crowdBy U_t_crowdRounds U_t_bestSquare U_t_bestBy U_t_spotsMany U_t_spotAt U_t_followed U_t_followOf U_t_toldMany U_t_toldOf U_t_stepsTo U_t_reachOne U_t_isMarked U_t_markOf t_at t_fault t_towns t_value t_place t_sort t_words) pl 136 [some (.ref A_t), some (.int l1), some (.int l2), none, none, none, none, none, none] [] := by
  replace hw : wp_X12_takeNumber t_value t_place t_sort t_at t_fault 0 119 (fun r140 t_at_140 t_fault_140 => ∃ n, lp (wp_X12_readSun_L151 (fun t_at t_fault t_towns l1 l2 l4 l5 => (0 ≤ l5 → (wp_X12_readSun_b195 t_value t_place t_sort t_words post t_at t_fault t_towns l1 l2 l4 l5)) ∧ (¬ 0 ≤ l5 → (wp_X12_wrong t_at t_place t_fault 1 (fun t_fault_192 => wp_X12_readSun_b195 t_value t_place t_sort t_words post t_at t_fault_192 t_towns l1 l2 l4 l5)))) t_value t_place t_sort t_words post) n (t_at_140, t_fault_140, t_towns, l1, l2, r140, (-1), 0)) := hw
  refine a_aload_n (pc := 136) (i := 0) C dX12_readSun_136 rfl rfl ?_
  refine a_iconst (pc := 137) C dX12_readSun_137 kc_0 ?_
  refine a_bipush (pc := 138) C dX12_readSun_138 kb_119 ?_
  refine a_callVi (pc := 140) (As := [.int 0, .int 119]) (st := []) (ws' := (fun u => (w_X12_readSun (cxG X) A_t A_t_towns A_t_value A_t_place A_t_sort A_t_words U_t_thrown U_t_tape U_t_taped U_t_size U_t_op U_t_arg U_t_codes U_t_facts U_t_pile U_t_shadeDay U_t_sun U_t_isShut U_t_sunny U_t_cost U_t_leastCost U_t_leastEnd U_t_wayOf U_t_wayMany U_t_whereAt U_t_reach U_t_likely U_t_crowdAt U_t_crowdBy U_t_crowdRounds U_t_bestSquare U_t_bestBy U_t_spotsMany U_t_spotAt U_t_followed U_t_followOf U_t_toldMany U_t_toldOf U_t_stepsTo U_t_reachOne U_t_isMarked U_t_markOf u.1 u.2 t_towns t_value t_place t_sort t_words))) C (c_X12_takeNumber A_t A_t_value A_t_place A_t_sort U_t_thrown U_t_tape U_t_taped U_t_size (.ref A_t_words) (.ref A_t_towns) U_t_op U_t_arg U_t_codes U_t_facts U_t_pile U_t_shadeDay U_t_sun U_t_isShut U_t_sunny U_t_cost U_t_leastCost U_t_leastEnd U_t_wayOf U_t_wayMany U_t_whereAt U_t_reach U_t_likely U_t_crowdAt U_t_crowdBy U_t_crowdRounds U_t_bestSquare U_t_bestBy U_t_spotsMany U_t_spotAt U_t_followed U_t_followOf U_t_toldMany U_t_toldOf U_t_stepsTo U_t_reachOne U_t_isMarked U_t_markOf hw) dX12_readSun_140 mth_X12_takeNumber tml_X12_255 (fun _ _ h => trivial) Fz0_ok (rml (by decide) (by decide)) (Nat.le_of_ble_eq_true rfl) rfl rfl [0, 2, 3, 4] [1, 5] [2, 0, 3, 4, 5, 1] rfl rfl rfl rfl rfl rfl (ci := 12) rfl ⟨0, _, rfl⟩ (fun _ => rfl) rfl (fun _ => rfl) (fun r140 u hw => ?_)
  obtain ⟨t_at_140, t_fault_140⟩ := u
  dsimp only at hw
  show AW X 9 0 0 (w_X12_readSun (cxG X) A_t A_t_towns A_t_value A_t_place A_t_sort A_t_words U_t_thrown U_t_tape U_t_taped U_t_size U_t_op U_t_arg U_t_codes U_t_facts U_t_pile U_t_shadeDay U_t_sun U_t_isShut U_t_sunny U_t_cost U_t_leastCost U_t_leastEnd U_t_wayOf U_t_wayMany U_t_whereAt U_t_reach U_t_likely U_t_crowdAt U_t_crowdBy U_t_crowdRounds U_t_bestSquare U_t_bestBy U_t_spotsMany U_t_spotAt U_t_followed U_t_followOf U_t_toldMany U_t_toldOf U_t_stepsTo U_t_reachOne U_t_isMarked U_t_markOf t_at_140 t_fault_140 t_towns t_value t_place t_sort t_words) pl 143 [some (.ref A_t), some (.int l1), some (.int l2), none, none, none, none, none, none] [.int r140]
  refine s_istore (pc := 143) (i := 4) (lo' := [some (.ref A_t), some (.int l1), some (.int l2), none, some (.int r140), none, none, none, none]) C dX12_readSun_143 (by decide) rfl rfl ?_
  refine a_iconst (pc := 145) C dX12_readSun_145 kc_m1 ?_
  refine s_istore (pc := 146) (i := 5) (lo' := [some (.ref A_t), some (.int l1), some (.int l2), none, some (.int r140), some (.int (-1)), none, none, none]) C dX12_readSun_146 (by decide) rfl rfl ?_
  refine a_iconst (pc := 148) C dX12_readSun_148 kc_0 ?_
  refine s_istore (pc := 149) (i := 6) (lo' := [some (.ref A_t), some (.int l1), some (.int l2), none, some (.int r140), some (.int (-1)), some (.int 0), none, none]) C dX12_readSun_149 (by decide) rfl rfl ?_
  obtain ⟨n151, hw⟩ := hw
  refine m_X12_readSun_L151 C hret (fun t_at t_fault t_towns l1 l2 l4 l5 hw => ?_) n151 _ _ _ _ _ _ _ _ hw
  refine a_iload (pc := 185) (i := 5) C dX12_readSun_185 rfl ?_
  refine a_if_ge (pc := 187) (tgt := 195) C dX12_readSun_187 (by decide) (fun c_187 => ?_) (fun c_187 => ?_)
  · replace hw := hw.1 c_187
    exact m_X12_readSun_b195 C hret hw
  · replace hw := hw.2 c_187
    refine a_aload_n (pc := 190) (i := 0) C dX12_readSun_190 rfl rfl ?_
    refine a_iconst (pc := 191) C dX12_readSun_191 kc_1 ?_
    refine a_callVv (pc := 192) (As := [.int 1]) (st := []) (ws' := (fun u => (w_X12_readSun (cxG X) A_t A_t_towns A_t_value A_t_place A_t_sort A_t_words U_t_thrown U_t_tape U_t_taped U_t_size U_t_op U_t_arg U_t_codes U_t_facts U_t_pile U_t_shadeDay U_t_sun U_t_isShut U_t_sunny U_t_cost U_t_leastCost U_t_leastEnd U_t_wayOf U_t_wayMany U_t_whereAt U_t_reach U_t_likely U_t_crowdAt U_t_crowdBy U_t_crowdRounds U_t_bestSquare U_t_bestBy U_t_spotsMany U_t_spotAt U_t_followed U_t_followOf U_t_toldMany U_t_toldOf U_t_stepsTo U_t_reachOne U_t_isMarked U_t_markOf t_at u t_towns t_value t_place t_sort t_words))) C (c_X12_wrong A_t A_t_place U_t_thrown U_t_tape U_t_taped U_t_size (.ref A_t_sort) (.ref A_t_value) (.ref A_t_words) (.ref A_t_towns) U_t_op U_t_arg U_t_codes U_t_facts U_t_pile U_t_shadeDay U_t_sun U_t_isShut U_t_sunny U_t_cost U_t_leastCost U_t_leastEnd U_t_wayOf U_t_wayMany U_t_whereAt U_t_reach U_t_likely U_t_crowdAt U_t_crowdBy U_t_crowdRounds U_t_bestSquare U_t_bestBy U_t_spotsMany U_t_spotAt U_t_followed U_t_followOf U_t_toldMany U_t_toldOf U_t_stepsTo U_t_reachOne U_t_isMarked U_t_markOf hw) dX12_readSun_192 mth_X12_wrong tml_X12_205 (fun _ _ h => trivial) Fz0_ok (rml (by decide) (by decide)) (Nat.le_of_ble_eq_true rfl) rfl rfl [0, 3] [1, 2, 4, 5] [4, 0, 1, 5, 2, 3] rfl rfl rfl rfl rfl rfl (ci := 12) rfl ⟨0, _, rfl⟩ (fun _ => rfl) rfl (fun _ => rfl) (fun u hw => ?_)
    obtain ⟨t_fault_192, rfl⟩ : ∃ z, z = u := ⟨_, rfl⟩
    show AW X 9 0 0 (w_X12_readSun (cxG X) A_t A_t_towns A_t_value A_t_place A_t_sort A_t_words U_t_thrown U_t_tape U_t_taped U_t_size U_t_op U_t_arg U_t_codes U_t_facts U_t_pile U_t_shadeDay U_t_sun U_t_isShut U_t_sunny U_t_cost U_t_leastCost U_t_leastEnd U_t_wayOf U_t_wayMany U_t_whereAt U_t_reach U_t_likely U_t_crowdAt U_t_crowdBy U_t_crowdRounds U_t_bestSquare U_t_bestBy U_t_spotsMany U_t_spotAt U_t_followed U_t_followOf U_t_toldMany U_t_toldOf U_t_stepsTo U_t_reachOne U_t_isMarked U_t_markOf t_at t_fault_192 t_towns t_value t_place t_sort t_words) pl 195 [some (.ref A_t), some (.int l1), some (.int l2), none, some (.int l4), some (.int l5), none, none, none] []
    exact m_X12_readSun_b195 C hret hw
set_option maxRecDepth 20000 in
theorem m_X12_readSun {X : Ctx} (C : Cok X cX12_readSun 9 RX12 (rmL 3) Fz0) {pl : Pool} {A_t A_t_towns A_t_value A_t_place A_t_sort A_t_words : Nat} {U_t_thrown U_t_tape U_t_taped U_t_size U_t_op U_t_arg U_t_codes U_t_facts U_t_pile U_t_shadeDay U_t_sun U_t_isShut U_t_sunny U_t_cost U_t_leastCost U_t_leastEnd U_t_wayOf U_t_wayMany U_t_whereAt U_t_reach U_t_likely U_t_crowdAt U_t_crowdBy U_t_crowdRounds U_t_bestSquare U_t_bestBy U_t_spotsMany U_t_spotAt U_t_followed U_t_followOf U_t_toldMany U_t_toldOf U_t_stepsTo U_t_reachOne U_t_isMarked U_t_markOf : Value} {t_value : Nat → Int64} {t_place : Nat → Int32} {t_sort : Nat → Int32} {t_words : Nat → Int64} {t_at : Int32} {t_fault : Int32} {t_towns : Nat → Int32} {post : Int32 → Int32 → (Nat → Int32) → Prop} (hret : ∀ (w0 : Int32) (w1 : Int32) (w2 : Nat → Int32) (pc : Nat) (lo : List (Option Value)), post w0 w1 w2 → decode cX12_readSun pc = .ok (.return_, 1) → AW X 9 0 0 (w_X12_readSun (cxG X) A_t A_t_towns A_t_value A_t_place A_t_sort A_t_words U_t_thrown U_t_tape U_t_taped U_t_size U_t_op U_t_arg U_t_codes U_t_facts U_t_pile U_t_shadeDay U_t_sun U_t_isShut U_t_sunny U_t_cost U_t_leastCost U_t_leastEnd U_t_wayOf U_t_wayMany U_t_whereAt U_t_reach U_t_likely U_t_crowdAt U_t_crowdBy U_t_crowdRounds U_t_bestSquare U_t_bestBy U_t_spotsMany U_t_spotAt U_t_followed U_t_followOf U_t_toldMany U_t_toldOf U_t_stepsTo U_t_reachOne U_t_isMarked U_t_markOf w0 w1 w2 t_value t_place t_sort t_words) pl pc lo []) (hw : wp_X12_readSun t_value t_place t_sort t_words t_at t_fault t_towns post) : AW X 9 0 0 (w_X12_readSun (cxG X) A_t A_t_towns A_t_value A_t_place A_t_sort A_t_words U_t_thrown U_t_tape U_t_taped U_t_size U_t_op U_t_arg U_t_codes U_t_facts U_t_pile U_t_shadeDay U_t_sun U_t_isShut U_t_sunny U_t_cost U_t_leastCost U_t_leastEnd U_t_wayOf U_t_wayMany U_t_whereAt U_t_reach U_t_likely U_t_crowdAt U_t_crowdBy U_t_crowdRounds U_t_bestSquare U_t_bestBy U_t_spotsMany U_t_spotAt U_t_followed U_t_followOf U_t_toldMany U_t_toldOf U_t_stepsTo U_t_reachOne U_t_isMarked U_t_markOf t_at t_fault t_towns t_value t_place t_sort t_words) pl 0 [some (.ref A_t), none, none, none, none, none, none, none, none] [] := by
  refine a_aload_n (pc := 0) (i := 0) C dX12_readSun_0 rfl rfl ?_
  refine a_get (pc := 1) C fl_X12_97 dX12_readSun_1 0 rfl rfl ?_
  refine a_sipush (pc := 4) C dX12_readSun_4 ks_701 ?_
  obtain ⟨i_7, hw⟩ := hw
  refine a_iald (pc := 7) C dX12_readSun_7 1 rfl i_7 ?_
  refine a_topi (fun x8 e_x8 => ?_)
  replace hw := hw x8 e_x8
  refine s_istore_n (pc := 8) (i := 1) (lo' := [some (.ref A_t), some (.int x8), none, none, none, none, none, none, none]) C dX12_readSun_8 rfl (by decide) rfl rfl ?_
  refine a_iload_n (pc := 9) (i := 1) C dX12_readSun_9 rfl rfl ?_
  refine a_bipush (pc := 10) C dX12_readSun_10 kb_24 ?_
  refine a_icmp_ne (pc := 12) (tgt := 21) C dX12_readSun_12 (by decide) (fun c_12 => ?_) (fun c_12 => ?_)
  · replace hw := hw.1 c_12
    refine a_aload_n (pc := 21) (i := 0) C dX12_readSun_21 rfl rfl ?_
    refine a_dup (pc := 22) C dX12_readSun_22 rfl ?_
    refine a_get (pc := 23) C fl_X12_196 dX12_readSun_23 0 rfl rfl ?_
    refine a_iconst (pc := 26) C dX12_readSun_26 kc_1 ?_
    refine a_iadd (pc := 27) C dX12_readSun_27 ?_
    refine a_topi (fun x28 e_x28 => ?_)
    replace hw := hw x28 e_x28
    refine a_putW (pc := 28) (ws' := (w_X12_readSun (cxG X) A_t A_t_towns A_t_value A_t_place A_t_sort A_t_words U_t_thrown U_t_tape U_t_taped U_t_size U_t_op U_t_arg U_t_codes U_t_facts U_t_pile U_t_shadeDay U_t_sun U_t_isShut U_t_sunny U_t_cost U_t_leastCost U_t_leastEnd U_t_wayOf U_t_wayMany U_t_whereAt U_t_reach U_t_likely U_t_crowdAt U_t_crowdBy U_t_crowdRounds U_t_bestSquare U_t_bestBy U_t_spotsMany U_t_spotAt U_t_followed U_t_followOf U_t_toldMany U_t_toldOf U_t_stepsTo U_t_reachOne U_t_isMarked U_t_markOf x28 t_fault t_towns t_value t_place t_sort t_words)) C fl_X12_196 pu_12_7 dX12_readSun_28 0 rfl rfl rfl (Nat.le_of_ble_eq_true rfl) rfl ?_
    refine a_aload_n (pc := 31) (i := 0) C dX12_readSun_31 rfl rfl ?_
    refine a_iconst (pc := 32) C dX12_readSun_32 kc_0 ?_
    refine a_iconst (pc := 33) C dX12_readSun_33 kc_3 ?_
    refine a_callVi (pc := 34) (As := [.int 0, .int 3]) (st := []) (ws' := (fun u => (w_X12_readSun (cxG X) A_t A_t_towns A_t_value A_t_place A_t_sort A_t_words U_t_thrown U_t_tape U_t_taped U_t_size U_t_op U_t_arg U_t_codes U_t_facts U_t_pile U_t_shadeDay U_t_sun U_t_isShut U_t_sunny U_t_cost U_t_leastCost U_t_leastEnd U_t_wayOf U_t_wayMany U_t_whereAt U_t_reach U_t_likely U_t_crowdAt U_t_crowdBy U_t_crowdRounds U_t_bestSquare U_t_bestBy U_t_spotsMany U_t_spotAt U_t_followed U_t_followOf U_t_toldMany U_t_toldOf U_t_stepsTo U_t_reachOne U_t_isMarked U_t_markOf u.1 u.2 t_towns t_value t_place t_sort t_words))) C (c_X12_takeNumber A_t A_t_value A_t_place A_t_sort U_t_thrown U_t_tape U_t_taped U_t_size (.ref A_t_words) (.ref A_t_towns) U_t_op U_t_arg U_t_codes U_t_facts U_t_pile U_t_shadeDay U_t_sun U_t_isShut U_t_sunny U_t_cost U_t_leastCost U_t_leastEnd U_t_wayOf U_t_wayMany U_t_whereAt U_t_reach U_t_likely U_t_crowdAt U_t_crowdBy U_t_crowdRounds U_t_bestSquare U_t_bestBy U_t_spotsMany U_t_spotAt U_t_followed U_t_followOf U_t_toldMany U_t_toldOf U_t_stepsTo U_t_reachOne U_t_isMarked U_t_markOf hw) dX12_readSun_34 mth_X12_takeNumber tml_X12_255 (fun _ _ h => trivial) Fz0_ok (rml (by decide) (by decide)) (Nat.le_of_ble_eq_true rfl) rfl rfl [0, 2, 3, 4] [1, 5] [2, 0, 3, 4, 5, 1] rfl rfl rfl rfl rfl rfl (ci := 12) rfl ⟨0, _, rfl⟩ (fun _ => rfl) rfl (fun _ => rfl) (fun r34 u hw => ?_)
    obtain ⟨t_at_34, t_fault_34⟩ := u
    dsimp only at hw
    show AW X 9 0 0 (w_X12_readSun (cxG X) A_t A_t_towns A_t_value A_t_place A_t_sort A_t_words U_t_thrown U_t_tape U_t_taped U_t_size U_t_op U_t_arg U_t_codes U_t_facts U_t_pile U_t_shadeDay U_t_sun U_t_isShut U_t_sunny U_t_cost U_t_leastCost U_t_leastEnd U_t_wayOf U_t_wayMany U_t_whereAt U_t_reach U_t_likely U_t_crowdAt U_t_crowdBy U_t_crowdRounds U_t_bestSquare U_t_bestBy U_t_spotsMany U_t_spotAt U_t_followed U_t_followOf U_t_toldMany U_t_toldOf U_t_stepsTo U_t_reachOne U_t_isMarked U_t_markOf t_at_34 t_fault_34 t_towns t_value t_place t_sort t_words) pl 37 [some (.ref A_t), some (.int x8), none, none, none, none, none, none, none] [.int r34]
    refine s_istore_n (pc := 37) (i := 2) (lo' := [some (.ref A_t), some (.int x8), some (.int r34), none, none, none, none, none, none]) C dX12_readSun_37 rfl (by decide) rfl rfl ?_
    refine a_aload_n (pc := 38) (i := 0) C dX12_readSun_38 rfl rfl ?_
    refine a_bipush (pc := 39) C dX12_readSun_39 kb_8 ?_
    refine a_callVv (pc := 41) (As := [.int 8]) (st := []) (ws' := (fun u => (w_X12_readSun (cxG X) A_t A_t_towns A_t_value A_t_place A_t_sort A_t_words U_t_thrown U_t_tape U_t_taped U_t_size U_t_op U_t_arg U_t_codes U_t_facts U_t_pile U_t_shadeDay U_t_sun U_t_isShut U_t_sunny U_t_cost U_t_leastCost U_t_leastEnd U_t_wayOf U_t_wayMany U_t_whereAt U_t_reach U_t_likely U_t_crowdAt U_t_crowdBy U_t_crowdRounds U_t_bestSquare U_t_bestBy U_t_spotsMany U_t_spotAt U_t_followed U_t_followOf U_t_toldMany U_t_toldOf U_t_stepsTo U_t_reachOne U_t_isMarked U_t_markOf u.1 u.2 t_towns t_value t_place t_sort t_words))) C (c_X12_takeWord A_t A_t_sort A_t_value A_t_words A_t_place U_t_thrown U_t_tape U_t_taped U_t_size (.ref A_t_towns) U_t_op U_t_arg U_t_codes U_t_facts U_t_pile U_t_shadeDay U_t_sun U_t_isShut U_t_sunny U_t_cost U_t_leastCost U_t_leastEnd U_t_wayOf U_t_wayMany U_t_whereAt U_t_reach U_t_likely U_t_crowdAt U_t_crowdBy U_t_crowdRounds U_t_bestSquare U_t_bestBy U_t_spotsMany U_t_spotAt U_t_followed U_t_followOf U_t_toldMany U_t_toldOf U_t_stepsTo U_t_reachOne U_t_isMarked U_t_markOf hw) dX12_readSun_41 mth_X12_takeWord tml_X12_259 (fun _ _ h => trivial) Fz0_ok (rml (by decide) (by decide)) (Nat.le_of_ble_eq_true rfl) rfl rfl [0, 4, 2, 5, 3] [1] [1, 0, 3, 5, 2, 4] rfl rfl rfl rfl rfl rfl (ci := 12) rfl ⟨0, _, rfl⟩ (fun _ => rfl) rfl (fun _ => rfl) (fun u hw => ?_)
    obtain ⟨t_at_41, t_fault_41⟩ := u
    dsimp only at hw
    show AW X 9 0 0 (w_X12_readSun (cxG X) A_t A_t_towns A_t_value A_t_place A_t_sort A_t_words U_t_thrown U_t_tape U_t_taped U_t_size U_t_op U_t_arg U_t_codes U_t_facts U_t_pile U_t_shadeDay U_t_sun U_t_isShut U_t_sunny U_t_cost U_t_leastCost U_t_leastEnd U_t_wayOf U_t_wayMany U_t_whereAt U_t_reach U_t_likely U_t_crowdAt U_t_crowdBy U_t_crowdRounds U_t_bestSquare U_t_bestBy U_t_spotsMany U_t_spotAt U_t_followed U_t_followOf U_t_toldMany U_t_toldOf U_t_stepsTo U_t_reachOne U_t_isMarked U_t_markOf t_at_41 t_fault_41 t_towns t_value t_place t_sort t_words) pl 44 [some (.ref A_t), some (.int x8), some (.int r34), none, none, none, none, none, none] []
    refine a_iconst (pc := 44) C dX12_readSun_44 kc_m1 ?_
    refine s_istore_n (pc := 45) (i := 3) (lo' := [some (.ref A_t), some (.int x8), some (.int r34), some (.int (-1)), none, none, none, none, none]) C dX12_readSun_45 rfl (by decide) rfl rfl ?_
    refine a_iconst (pc := 46) C dX12_readSun_46 kc_0 ?_
    refine s_istore (pc := 47) (i := 4) (lo' := [some (.ref A_t), some (.int x8), some (.int r34), some (.int (-1)), some (.int 0), none, none, none, none]) C dX12_readSun_47 (by decide) rfl rfl ?_
    obtain ⟨n49, hw⟩ := hw
    refine m_X12_readSun_L49 C hret (fun t_at t_fault t_towns l1 l2 l3 hw => ?_) n49 _ _ _ _ _ _ _ hw
    refine a_aload_n (pc := 96) (i := 0) C dX12_readSun_96 rfl rfl ?_
    refine a_get (pc := 97) C fl_X12_199 dX12_readSun_97 0 rfl rfl ?_
    refine a_if_ne (pc := 100) (tgt := 136) C dX12_readSun_100 (by decide) (fun c_100 => ?_) (fun c_100 => ?_)
    · replace hw := hw.1 c_100
      refine a_msk [true, true, true, false, true, true, true, true, true] rfl ?_
      exact m_X12_readSun_b136 C hret hw
    · replace hw := hw.2 c_100
      refine a_aload_n (pc := 103) (i := 0) C dX12_readSun_103 rfl rfl ?_
      refine a_get (pc := 104) C fl_X12_24 dX12_readSun_104 0 rfl rfl ?_
      refine a_aload_n (pc := 107) (i := 0) C dX12_readSun_107 rfl rfl ?_
      refine a_get (pc := 108) C fl_X12_196 dX12_readSun_108 0 rfl rfl ?_
      obtain ⟨i_111, hw⟩ := hw
      refine a_iald (pc := 111) C dX12_readSun_111 4 rfl i_111 ?_
      refine a_iconst (pc := 112) C dX12_readSun_112 kc_2 ?_
      refine a_icmp_ne (pc := 113) (tgt := 136) C dX12_readSun_113 (by decide) (fun c_113 => ?_) (fun c_113 => ?_)
      · replace hw := hw.1 c_113
        refine a_msk [true, true, true, false, true, true, true, true, true] rfl ?_
        exact m_X12_readSun_b136 C hret hw
      · replace hw := hw.2 c_113
        refine a_aload_n (pc := 116) (i := 0) C dX12_readSun_116 rfl rfl ?_
        refine a_get (pc := 117) C fl_X12_30 dX12_readSun_117 0 rfl rfl ?_
        refine a_aload_n (pc := 120) (i := 0) C dX12_readSun_120 rfl rfl ?_
        refine a_get (pc := 121) C fl_X12_196 dX12_readSun_121 0 rfl rfl ?_
        obtain ⟨i_124, hw⟩ := hw
        refine a_lald (pc := 124) C dX12_readSun_124 2 rfl i_124 ?_
        refine a_iload_n (pc := 125) (i := 3) C dX12_readSun_125 rfl rfl ?_
        refine a_i2l (pc := 126) C dX12_readSun_126 ?_
        refine a_lcmp (pc := 127) C dX12_readSun_127 ?_
        refine a_if_gt (pc := 128) (tgt := 136) C dX12_readSun_128 (by decide) (fun c_128 => ?_) (fun c_128 => ?_)
        · replace hw := hw.1 c_128
          refine a_msk [true, true, true, false, true, true, true, true, true] rfl ?_
          exact m_X12_readSun_b136 C hret hw
        · replace hw := hw.2 c_128
          refine a_aload_n (pc := 131) (i := 0) C dX12_readSun_131 rfl rfl ?_
          refine a_iconst (pc := 132) C dX12_readSun_132 kc_3 ?_
          refine a_callVv (pc := 133) (As := [.int 3]) (st := []) (ws' := (fun u => (w_X12_readSun (cxG X) A_t A_t_towns A_t_value A_t_place A_t_sort A_t_words U_t_thrown U_t_tape U_t_taped U_t_size U_t_op U_t_arg U_t_codes U_t_facts U_t_pile U_t_shadeDay U_t_sun U_t_isShut U_t_sunny U_t_cost U_t_leastCost U_t_leastEnd U_t_wayOf U_t_wayMany U_t_whereAt U_t_reach U_t_likely U_t_crowdAt U_t_crowdBy U_t_crowdRounds U_t_bestSquare U_t_bestBy U_t_spotsMany U_t_spotAt U_t_followed U_t_followOf U_t_toldMany U_t_toldOf U_t_stepsTo U_t_reachOne U_t_isMarked U_t_markOf t_at u t_towns t_value t_place t_sort t_words))) C (c_X12_wrong A_t A_t_place U_t_thrown U_t_tape U_t_taped U_t_size (.ref A_t_sort) (.ref A_t_value) (.ref A_t_words) (.ref A_t_towns) U_t_op U_t_arg U_t_codes U_t_facts U_t_pile U_t_shadeDay U_t_sun U_t_isShut U_t_sunny U_t_cost U_t_leastCost U_t_leastEnd U_t_wayOf U_t_wayMany U_t_whereAt U_t_reach U_t_likely U_t_crowdAt U_t_crowdBy U_t_crowdRounds U_t_bestSquare U_t_bestBy U_t_spotsMany U_t_spotAt U_t_followed U_t_followOf U_t_toldMany U_t_toldOf U_t_stepsTo U_t_reachOne U_t_isMarked U_t_markOf hw) dX12_readSun_133 mth_X12_wrong tml_X12_205 (fun _ _ h => trivial) Fz0_ok (rml (by decide) (by decide)) (Nat.le_of_ble_eq_true rfl) rfl rfl [0, 3] [1, 2, 4, 5] [4, 0, 1, 5, 2, 3] rfl rfl rfl rfl rfl rfl (ci := 12) rfl ⟨0, _, rfl⟩ (fun _ => rfl) rfl (fun _ => rfl) (fun u hw => ?_)
          obtain ⟨t_fault_133, rfl⟩ : ∃ z, z = u := ⟨_, rfl⟩
          show AW X 9 0 0 (w_X12_readSun (cxG X) A_t A_t_towns A_t_value A_t_place A_t_sort A_t_words U_t_thrown U_t_tape U_t_taped U_t_size U_t_op U_t_arg U_t_codes U_t_facts U_t_pile U_t_shadeDay U_t_sun U_t_isShut U_t_sunny U_t_cost U_t_leastCost U_t_leastEnd U_t_wayOf U_t_wayMany U_t_whereAt U_t_reach U_t_likely U_t_crowdAt U_t_crowdBy U_t_crowdRounds U_t_bestSquare U_t_bestBy U_t_spotsMany U_t_spotAt U_t_followed U_t_followOf U_t_toldMany U_t_toldOf U_t_stepsTo U_t_reachOne U_t_isMarked U_t_markOf t_at t_fault_133 t_towns t_value t_place t_sort t_words) pl 136 [some (.ref A_t), some (.int l1), some (.int l2), some (.int l3), none, none, none, none, none] []
          refine a_msk [true, true, true, false, true, true, true, true, true] rfl ?_
          exact m_X12_readSun_b136 C hret hw
  · replace hw := hw.2 c_12
    refine a_aload_n (pc := 15) (i := 0) C dX12_readSun_15 rfl rfl ?_
    refine a_iconst (pc := 16) C dX12_readSun_16 kc_5 ?_
    refine a_callVv (pc := 17) (As := [.int 5]) (st := []) (ws' := (fun u => (w_X12_readSun (cxG X) A_t A_t_towns A_t_value A_t_place A_t_sort A_t_words U_t_thrown U_t_tape U_t_taped U_t_size U_t_op U_t_arg U_t_codes U_t_facts U_t_pile U_t_shadeDay U_t_sun U_t_isShut U_t_sunny U_t_cost U_t_leastCost U_t_leastEnd U_t_wayOf U_t_wayMany U_t_whereAt U_t_reach U_t_likely U_t_crowdAt U_t_crowdBy U_t_crowdRounds U_t_bestSquare U_t_bestBy U_t_spotsMany U_t_spotAt U_t_followed U_t_followOf U_t_toldMany U_t_toldOf U_t_stepsTo U_t_reachOne U_t_isMarked U_t_markOf t_at u t_towns t_value t_place t_sort t_words))) C (c_X12_wrong A_t A_t_place U_t_thrown U_t_tape U_t_taped U_t_size (.ref A_t_sort) (.ref A_t_value) (.ref A_t_words) (.ref A_t_towns) U_t_op U_t_arg U_t_codes U_t_facts U_t_pile U_t_shadeDay U_t_sun U_t_isShut U_t_sunny U_t_cost U_t_leastCost U_t_leastEnd U_t_wayOf U_t_wayMany U_t_whereAt U_t_reach U_t_likely U_t_crowdAt U_t_crowdBy U_t_crowdRounds U_t_bestSquare U_t_bestBy U_t_spotsMany U_t_spotAt U_t_followed U_t_followOf U_t_toldMany U_t_toldOf U_t_stepsTo U_t_reachOne U_t_isMarked U_t_markOf hw) dX12_readSun_17 mth_X12_wrong tml_X12_205 (fun _ _ h => trivial) Fz0_ok (rml (by decide) (by decide)) (Nat.le_of_ble_eq_true rfl) rfl rfl [0, 3] [1, 2, 4, 5] [4, 0, 1, 5, 2, 3] rfl rfl rfl rfl rfl rfl (ci := 12) rfl ⟨0, _, rfl⟩ (fun _ => rfl) rfl (fun _ => rfl) (fun u hw => ?_)
    obtain ⟨t_fault_17, rfl⟩ : ∃ z, z = u := ⟨_, rfl⟩
    show AW X 9 0 0 (w_X12_readSun (cxG X) A_t A_t_towns A_t_value A_t_place A_t_sort A_t_words U_t_thrown U_t_tape U_t_taped U_t_size U_t_op U_t_arg U_t_codes U_t_facts U_t_pile U_t_shadeDay U_t_sun U_t_isShut U_t_sunny U_t_cost U_t_leastCost U_t_leastEnd U_t_wayOf U_t_wayMany U_t_whereAt U_t_reach U_t_likely U_t_crowdAt U_t_crowdBy U_t_crowdRounds U_t_bestSquare U_t_bestBy U_t_spotsMany U_t_spotAt U_t_followed U_t_followOf U_t_toldMany U_t_toldOf U_t_stepsTo U_t_reachOne U_t_isMarked U_t_markOf t_at t_fault_17 t_towns t_value t_place t_sort t_words) pl 20 [some (.ref A_t), some (.int x8), none, none, none, none, none, none, none] []
    exact hret _ _ _ _ _ hw dX12_readSun_20
theorem c_X12_readSun {l : Launch} {g : GG} {pl : Pool} (A_t A_t_towns A_t_value A_t_place A_t_sort A_t_words : Nat) (U_t_thrown U_t_tape U_t_taped U_t_size U_t_op U_t_arg U_t_codes U_t_facts U_t_pile U_t_shadeDay U_t_sun U_t_isShut U_t_sunny U_t_cost U_t_leastCost U_t_leastEnd U_t_wayOf U_t_wayMany U_t_whereAt U_t_reach U_t_likely U_t_crowdAt U_t_crowdBy U_t_crowdRounds U_t_bestSquare U_t_bestBy U_t_spotsMany U_t_spotAt U_t_followed U_t_followOf U_t_toldMany U_t_toldOf U_t_stepsTo U_t_reachOne U_t_isMarked U_t_markOf : Value) {t_value : Nat → Int64} {t_place : Nat → Int32} {t_sort : Nat → Int32} {t_words : Nat → Int64} {t_at : Int32} {t_fault : Int32} {t_towns : Nat → Int32} {post : Int32 → Int32 → (Nat → Int32) → Prop} (hw : wp_X12_readSun t_value t_place t_sort t_words t_at t_fault t_towns post) : MV l yX12_readSun cX12_readSun 9 (none : Option Jvm.ClassFile.FieldType) (rmL 3) g Fz0 [.ref A_t] (w_X12_readSun g A_t A_t_towns A_t_value A_t_place A_t_sort A_t_words U_t_thrown U_t_tape U_t_taped U_t_size U_t_op U_t_arg U_t_codes U_t_facts U_t_pile U_t_shadeDay U_t_sun U_t_isShut U_t_sunny U_t_cost U_t_leastCost U_t_leastEnd U_t_wayOf U_t_wayMany U_t_whereAt U_t_reach U_t_likely U_t_crowdAt U_t_crowdBy U_t_crowdRounds U_t_bestSquare U_t_bestBy U_t_spotsMany U_t_spotAt U_t_followed U_t_followOf U_t_toldMany U_t_toldOf U_t_stepsTo U_t_reachOne U_t_isMarked U_t_markOf t_at t_fault t_towns t_value t_place t_sort t_words) pl (fun (u : Int32 × Int32 × (Nat → Int32)) => post u.1 u.2.1 u.2.2) (fun u => (w_X12_readSun g A_t A_t_towns A_t_value A_t_place A_t_sort A_t_words U_t_thrown U_t_tape U_t_taped U_t_size U_t_op U_t_arg U_t_codes U_t_facts U_t_pile U_t_shadeDay U_t_sun U_t_isShut U_t_sunny U_t_cost U_t_leastCost U_t_leastEnd U_t_wayOf U_t_wayMany U_t_whereAt U_t_reach U_t_likely U_t_crowdAt U_t_crowdBy U_t_crowdRounds U_t_bestSquare U_t_bestBy U_t_spotsMany U_t_spotAt U_t_followed U_t_followOf U_t_toldMany U_t_toldOf U_t_stepsTo U_t_reachOne U_t_isMarked U_t_markOf u.1 u.2.1 u.2.2 t_value t_place t_sort t_words)) (fun _ => pl) 0 0 := by
  refine met_v (own := RX12) rfl rfl (Nat.le_of_ble_eq_true rfl) (fun X hg hl C hini hret => ?_)
  subst hg
  subst hl
  exact m_X12_readSun C (fun w0 w1 w2 pc lo hp hd => hret (w0, w1, w2) pc lo hp hd) hw
