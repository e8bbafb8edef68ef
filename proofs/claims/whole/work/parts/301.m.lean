abbrev w_X12_readThing (g : GG) (A_t A_t_value A_t_place A_t_sort A_t_towns : Nat) (U_t_thrown U_t_tape U_t_taped U_t_size U_t_words U_t_op U_t_arg U_t_codes U_t_facts U_t_pile U_t_shadeDay U_t_sun U_t_isShut U_t_sunny U_t_cost U_t_leastCost U_t_leastEnd U_t_wayOf U_t_wayMany U_t_whereAt U_t_reach U_t_likely U_t_crowdAt U_t_crowdBy U_t_crowdRounds U_t_bestSquare U_t_bestBy U_t_spotsMany U_t_spotAt U_t_followed U_t_followOf U_t_toldMany U_t_toldOf U_t_stepsTo U_t_reachOne U_t_isMarked U_t_markOf : Value) (t_at : Int32) (t_fault : Int32) (t_value : Nat → Int64) (t_place : Nat → Int32) (t_sort : Nat → Int32) (t_towns : Nat → Int32) : va_W := [(A_t, ob 12 [U_t_thrown, U_t_tape, U_t_taped, U_t_size, .ref A_t_sort, .ref A_t_place, .ref A_t_value, .int t_at, .int t_fault, U_t_words, .ref A_t_towns, U_t_op, U_t_arg, U_t_codes, U_t_facts, U_t_pile, U_t_shadeDay, U_t_sun, U_t_isShut, U_t_sunny, U_t_cost, U_t_leastCost, U_t_leastEnd, U_t_wayOf, U_t_wayMany, U_t_whereAt, U_t_reach, U_t_likely, U_t_crowdAt, U_t_crowdBy, U_t_crowdRounds, U_t_bestSquare, U_t_bestBy, U_t_spotsMany, U_t_spotAt, U_t_followed, U_t_followOf, U_t_toldMany, U_t_toldOf, U_t_stepsTo, U_t_reachOne, U_t_isMarked, U_t_markOf]), (A_t_value, aJ g 1002 t_value), (A_t_place, aI g 1002 t_place), (A_t_sort, aI g 1002 t_sort), (A_t_towns, aI g 2640 t_towns)]
set_option maxRecDepth 20000 in
theorem m_X12_readThing_b110 {X : Ctx} (C : Cok X cX12_readThing 5 RX12 (rmL 2) Fz0) {pl : Pool} {A_t A_t_value A_t_place A_t_sort A_t_towns : Nat} {U_t_thrown U_t_tape U_t_taped U_t_size U_t_words U_t_op U_t_arg U_t_codes U_t_facts U_t_pile U_t_shadeDay U_t_sun U_t_isShut U_t_sunny U_t_cost U_t_leastCost U_t_leastEnd U_t_wayOf U_t_wayMany U_t_whereAt U_t_reach U_t_likely U_t_crowdAt U_t_crowdBy U_t_crowdRounds U_t_bestSquare U_t_bestBy U_t_spotsMany U_t_spotAt U_t_followed U_t_followOf U_t_toldMany U_t_toldOf U_t_stepsTo U_t_reachOne U_t_isMarked U_t_markOf : Value} {t_value : Nat → Int64} {t_place : Nat → Int32} {t_sort : Nat → Int32} {post : Int32 → Int32 → (Nat → Int32) → Prop} (hret : ∀ (w0 : Int32) (w1 : Int32) (w2 : Nat → Int32) (pc : Nat) (lo : List (Option Value)), post w0 w1 w2 → decode cX12_readThing pc = .ok (.return_, 1) → AW X 5 0 0 (w_X12_readThing (cxG X) A_t A_t_value A_t_place A_t_sort A_t_towns U_t_thrown U_t_tape U_t_taped U_t_size U_t_words U_t_op U_t_arg U_t_codes U_t_facts U_t_pile U_t_shadeDay U_t_sun U_t_isShut U_t_sunny U_t_cost U_t_leastCost U_t_leastEnd U_t_wayOf U_t_wayMany U_t_whereAt U_t_reach U_t_likely U_t_crowdAt U_t_crowdBy U_t_crowdRounds U_t_bestSquare U_t_bestBy U_t_spotsMany U_t_spotAt U_t_followed U_t_followOf U_t_toldMany U_t_toldOf U_t_stepsTo U_t_reachOne U_t_isMarked U_t_markOf w0 w1 t_value t_place t_sort w2) pl pc lo []) {t_at : Int32} {t_fault : Int32} {t_towns : Nat → Int32} {l1 : Int32} {l2 : Int32} {l3 : Int32} {s0 : Int32} (hw : wp_X12_readThing_b110  t_value t_place t_sort post t_at t_fault t_towns l1 l2 l3 s0) : AW X 5 0 0 (w_X12_readThing (cxG X) A_t A_t_value A_t_place A_t_sort A_t_towns U_t_thrown U_t_tape U_t_taped U_t_size U_t_words U_t_op U_t_arg U_t_codes U_t_facts U_t_pile U_t_shadeDay U_t_sun U_t_isShut U_t_sunny U_t_cost U_t_leastCost U_t_leastEnd U_t_wayOf U_t_wayMany U_t_whereAt U_t_reach U_t_likely U_t_crowdAt U_t_crowdBy U_t_crowdRounds U_t_bestSquare U_t_bestBy U_t_spotsMany U_t_spotAt U_t_followed U_t_followOf U_t_toldMany U_t_toldOf U_t_stepsTo U_t_reachOne U_t_isMarked U_t_markOf t_at t_fault t_value t_place t_sort t_towns) pl 110 [some (.ref A_t), some (.int l1), some (.int l2), some (.int l3), none] [.int s0] := by
  refine s_istore (pc := 110) (i := 4) (lo' := [some (.ref A_t), some (.int l1), some (.int l2), some (.int l3), some (.int s0)]) C dX12_readThing_110 (by decide) rfl rfl ?_
  refine a_aload_n (pc := 112) (i := 0) C dX12_readThing_112 rfl rfl ?_
  refine a_get (pc := 113) C fl_X12_199 dX12_readThing_113 0 rfl rfl ?_
  refine a_if_ne (pc := 116) (tgt := 154) C dX12_readThing_116 (by decide) (fun c_116 => ?_) (fun c_116 => ?_)
  · replace hw := hw.1 c_116
    exact hret _ _ _ _ _ hw dX12_readThing_154
  · replace hw := hw.2 c_116
    refine a_aload_n (pc := 119) (i := 0) C dX12_readThing_119 rfl rfl ?_
    refine a_get (pc := 120) C fl_X12_97 dX12_readThing_120 0 rfl rfl ?_
    refine a_sipush (pc := 123) C dX12_readThing_123 ks_440 ?_
    refine a_bipush (pc := 126) C dX12_readThing_126 kb_10 ?_
    refine a_iload_n (pc := 128) (i := 3) C dX12_readThing_128 rfl rfl ?_
    refine a_imul (pc := 129) C dX12_readThing_129 ?_
    refine a_iadd (pc := 130) C dX12_readThing_130 ?_
    refine a_iload_n (pc := 131) (i := 2) C dX12_readThing_131 rfl rfl ?_
    refine a_iadd (pc := 132) C dX12_readThing_132 ?_
    refine a_iload_n (pc := 133) (i := 1) C dX12_readThing_133 rfl rfl ?_
    refine a_iconst (pc := 134) C dX12_readThing_134 kc_1 ?_
    refine a_iadd (pc := 135) C dX12_readThing_135 ?_
    refine a_topi (fun x136 e_x136 => ?_)
    replace hw := hw x136 e_x136
    refine a_top2i (fun x136_1 e_x136_1 => ?_)
    replace hw := hw x136_1 e_x136_1
    obtain ⟨i_136, hw⟩ := hw
    refine a_iastW (pc := 136) C (fun h => (w_X12_readThing (cxG X) A_t A_t_value A_t_place A_t_sort A_t_towns U_t_thrown U_t_tape U_t_taped U_t_size U_t_words U_t_op U_t_arg U_t_codes U_t_facts U_t_pile U_t_shadeDay U_t_sun U_t_isShut U_t_sunny U_t_cost U_t_leastCost U_t_leastEnd U_t_wayOf U_t_wayMany U_t_whereAt U_t_reach U_t_likely U_t_crowdAt U_t_crowdBy U_t_crowdRounds U_t_bestSquare U_t_bestBy U_t_spotsMany U_t_spotAt U_t_followed U_t_followOf U_t_toldMany U_t_toldOf U_t_stepsTo U_t_reachOne U_t_isMarked U_t_markOf t_at t_fault t_value t_place t_sort h)) dX12_readThing_136 4 rfl i_136 (fun _ => rfl) (fun t_towns_136 e_t_towns_136 => ?_)
    replace hw := hw t_towns_136 e_t_towns_136
    refine a_aload_n (pc := 137) (i := 0) C dX12_readThing_137 rfl rfl ?_
    refine a_get (pc := 138) C fl_X12_97 dX12_readThing_138 0 rfl rfl ?_
    refine a_sipush (pc := 141) C dX12_readThing_141 ks_540 ?_
    refine a_bipush (pc := 144) C dX12_readThing_144 kb_10 ?_
    refine a_iload_n (pc := 146) (i := 3) C dX12_readThing_146 rfl rfl ?_
    refine a_imul (pc := 147) C dX12_readThing_147 ?_
    refine a_iadd (pc := 148) C dX12_readThing_148 ?_
    refine a_iload_n (pc := 149) (i := 2) C dX12_readThing_149 rfl rfl ?_
    refine a_iadd (pc := 150) C dX12_readThing_150 ?_
    refine a_iload (pc := 151) (i := 4) C dX12_readThing_151 rfl ?_
    refine a_top2i (fun x153 e_x153 => ?_)
    replace hw := hw x153 e_x153
    obtain ⟨i_153, hw⟩ := hw
    refine a_iastW (pc := 153) C (fun h => (w_X12_readThing (cxG X) A_t A_t_value A_t_place A_t_sort A_t_towns U_t_thrown U_t_tape U_t_taped U_t_size U_t_words U_t_op U_t_arg U_t_codes U_t_facts U_t_pile U_t_shadeDay U_t_sun U_t_isShut U_t_sunny U_t_cost U_t_leastCost U_t_leastEnd U_t_wayOf U_t_wayMany U_t_whereAt U_t_reach U_t_likely U_t_crowdAt U_t_crowdBy U_t_crowdRounds U_t_bestSquare U_t_bestBy U_t_spotsMany U_t_spotAt U_t_followed U_t_followOf U_t_toldMany U_t_toldOf U_t_stepsTo U_t_reachOne U_t_isMarked U_t_markOf t_at t_fault t_value t_place t_sort h)) dX12_readThing_153 4 rfl i_153 (fun _ => rfl) (fun t_towns_153 e_t_towns_153 => ?_)
    replace hw := hw t_towns_153 e_t_towns_153
    exact hret _ _ _ _ _ hw dX12_readThing_154
set_option maxRecDepth 20000 in
theorem m_X12_readThing_b86 {X : Ctx} (C : Cok X cX12_readThing 5 RX12 (rmL 2) Fz0) {pl : Pool} {A_t A_t_value A_t_place A_t_sort A_t_towns : Nat} {U_t_thrown U_t_tape U_t_taped U_t_size U_t_words U_t_op U_t_arg U_t_codes U_t_facts U_t_pile U_t_shadeDay U_t_sun U_t_isShut U_t_sunny U_t_cost U_t_leastCost U_t_leastEnd U_t_wayOf U_t_wayMany U_t_whereAt U_t_reach U_t_likely U_t_crowdAt U_t_crowdBy U_t_crowdRounds U_t_bestSquare U_t_bestBy U_t_spotsMany U_t_spotAt U_t_followed U_t_followOf U_t_toldMany U_t_toldOf U_t_stepsTo U_t_reachOne U_t_isMarked U_t_markOf : Value} {t_value : Nat → Int64} {t_place : Nat → Int32} {t_sort : Nat → Int32} {post : Int32 → Int32 → (Nat → Int32) → Prop} (hret : ∀ (w0 : Int32) (w1 : Int32) (w2 : Nat → Int32) (pc : Nat) (lo : List (Option Value)), post w0 w1 w2 → decode cX12_readThing pc = .ok (.return_, 1) → AW X 5 0 0 (w_X12_readThing (cxG X) A_t A_t_value A_t_place A_t_sort A_t_towns U_t_thrown U_t_tape U_t_taped U_t_size U_t_words U_t_op U_t_arg U_t_codes U_t_facts U_t_pile U_t_shadeDay U_t_sun U_t_isShut U_t_sunny U_t_cost U_t_leastCost U_t_leastEnd U_t_wayOf U_t_wayMany U_t_whereAt U_t_reach U_t_likely U_t_crowdAt U_t_crowdBy U_t_crowdRounds U_t_bestSquare U_t_bestBy U_t_spotsMany U_t_spotAt U_t_followed U_t_followOf U_t_toldMany U_t_toldOf U_t_stepsTo U_t_reachOne U_t_isMarked U_t_markOf w0 w1 t_value t_place t_sort w2) pl pc lo []) {t_at : Int32} {t_fault : Int32} {t_towns : Nat → Int32} {l1 : Int32} {l2 : Int32} (hw : wp_X12_readThing_b86  t_value t_place t_sort post t_at t_fault t_towns l1 l2) : AW X 5 0 0 (w_X12_readThing (cxG X) A_t A_t_value A_t_place A_t_sort A_t_towns U_t_thrown U_t_tape U_t_taped U_t_size U_t_words U_t_op U_t_arg U_t_codes U_t_facts U_t_pile U_t_shadeDay U_t_sun U_t_isShut U_t_sunny U_t_cost U_t_leastCost U_t_leastEnd U_t_wayOf U_t_wayMany U_t_whereAt U_t_reach U_t_likely U_t_crowdAt U_t_crowdBy U_t_crowdRounds U_t_bestSquare U_t_bestBy U_t_spotsMany U_t_spotAt U_t_followed U_t_followOf U_t_toldMany U_t_toldOf U_t_stepsTo U_t_reachOne U_t_isMarked U_t_markOf t_at t_fault t_value t_place t_sort t_towns) pl 86 [some (.ref A_t), some (.int l1), some (.int l2), none, none] [] := by
  replace hw : wp_X12_takeNumber t_value t_place t_sort t_at t_fault 0 9 (fun r90 t_at_90 t_fault_90 => (¬ l1 = 2 → (wp_X12_takeNumber t_value t_place t_sort t_at_90 t_fault_90 1 99 (fun r107 t_at_107 t_fault_107 => wp_X12_readThing_b110 t_value t_place t_sort post t_at_107 t_fault_107 t_towns l1 l2 r90 r107))) ∧ (l1 = 2 → (wp_X12_readThing_b110 t_value t_place t_sort post t_at_90 t_fault_90 t_towns l1 l2 r90 0))) := hw
  refine a_aload_n (pc := 86) (i := 0) C dX12_readThing_86 rfl rfl ?_
  refine a_iconst (pc := 87) C dX12_readThing_87 kc_0 ?_
  refine a_bipush (pc := 88) C dX12_readThing_88 kb_9 ?_
  refine a_callVi (pc := 90) (As := [.int 0, .int 9]) (st := []) (ws' := (fun u => (w_X12_readThing (cxG X) A_t A_t_value A_t_place A_t_sort A_t_towns U_t_thrown U_t_tape U_t_taped U_t_size U_t_words U_t_op U_t_arg U_t_codes U_t_facts U_t_pile U_t_shadeDay U_t_sun U_t_isShut U_t_sunny U_t_cost U_t_leastCost U_t_leastEnd U_t_wayOf U_t_wayMany U_t_whereAt U_t_reach U_t_likely U_t_crowdAt U_t_crowdBy U_t_crowdRounds U_t_bestSquare U_t_bestBy U_t_spotsMany U_t_spotAt U_t_followed U_t_followOf U_t_toldMany U_t_toldOf U_t_stepsTo U_t_reachOne U_t_isMarked U_t_markOf u.1 u.2 t_value t_place t_sort t_towns))) C (c_X12_takeNumber A_t A_t_value A_t_place A_t_sort U_t_thrown U_t_tape U_t_taped U_t_size U_t_words (.ref A_t_towns) U_t_op U_t_arg U_t_codes U_t_facts U_t_pile U_t_shadeDay U_t_sun U_t_isShut U_t_sunny U_t_cost U_t_leastCost U_t_leastEnd U_t_wayOf U_t_wayMany U_t_whereAt U_t_reach U_t_likely U_t_crowdAt U_t_crowdBy U_t_crowdRounds U_t_bestSquare U_t_bestBy U_t_spotsMany U_t_spotAt U_t_followed U_t_followOf U_t_toldMany U_t_toldOf U_t_stepsTo U_t_reachOne U_t_isMarked U_t_markOf hw) dX12_readThing_90 mth_X12_takeNumber tml_X12_255 (fun _ _ h => trivial) Fz0_ok (rml (by decide) (by decide)) (Nat.le_of_ble_eq_true rfl) rfl rfl [0, 1, 2, 3] [4] [1, 2, 3, 4, 0] rfl rfl rfl rfl rfl rfl (ci := 12) rfl ⟨0, _, rfl⟩ (fun _ => rfl) rfl (fun _ => rfl) (fun r90 u hw => ?_)
  obtain ⟨t_at_90, t_fault_90⟩ := u
  dsimp only at hw
  show AW X 5 0 0 (w_X12_readThing (cxG X) A_t A_t_value A_t_place A_t_sort A_t_towns U_t_thrown U_t_tape U_t_taped U_t_size U_t_words U_t_op U_t_arg U_t_codes U_t_facts U_t_pile U_t_shadeDay U_t_sun U_t_isShut U_t_sunny U_t_cost U_t_leastCost U_t_leastEnd U_t_wayOf U_t_wayMany U_t_whereAt U_t_reach U_t_likely U_t_crowdAt U_t_crowdBy U_t_crowdRounds U_t_bestSquare U_t_bestBy U_t_spotsMany U_t_spotAt U_t_followed U_t_followOf U_t_toldMany U_t_toldOf U_t_stepsTo U_t_reachOne U_t_isMarked U_t_markOf t_at_90 t_fault_90 t_value t_place t_sort t_towns) pl 93 [some (.ref A_t), some (.int l1), some (.int l2), none, none] [.int r90]
  refine s_istore_n (pc := 93) (i := 3) (lo' := [some (.ref A_t), some (.int l1), some (.int l2), some (.int r90), none]) C dX12_readThing_93 rfl (by decide) rfl rfl ?_
  refine a_iload_n (pc := 94) (i := 1) C dX12_readThing_94 rfl rfl ?_
  refine a_iconst (pc := 95) C dX12_readThing_95 kc_2 ?_
  refine a_icmp_ne (pc := 96) (tgt := 103) C dX12_readThing_96 (by decide) (fun c_96 => ?_) (fun c_96 => ?_)
  · replace hw := hw.1 c_96
    refine a_aload_n (pc := 103) (i := 0) C dX12_readThing_103 rfl rfl ?_
    refine a_iconst (pc := 104) C dX12_readThing_104 kc_1 ?_
    refine a_bipush (pc := 105) C dX12_readThing_105 kb_99 ?_
    refine a_callVi (pc := 107) (As := [.int 1, .int 99]) (st := []) (ws' := (fun u => (w_X12_readThing (cxG X) A_t A_t_value A_t_place A_t_sort A_t_towns U_t_thrown U_t_tape U_t_taped U_t_size U_t_words U_t_op U_t_arg U_t_codes U_t_facts U_t_pile U_t_shadeDay U_t_sun U_t_isShut U_t_sunny U_t_cost U_t_leastCost U_t_leastEnd U_t_wayOf U_t_wayMany U_t_whereAt U_t_reach U_t_likely U_t_crowdAt U_t_crowdBy U_t_crowdRounds U_t_bestSquare U_t_bestBy U_t_spotsMany U_t_spotAt U_t_followed U_t_followOf U_t_toldMany U_t_toldOf U_t_stepsTo U_t_reachOne U_t_isMarked U_t_markOf u.1 u.2 t_value t_place t_sort t_towns))) C (c_X12_takeNumber A_t A_t_value A_t_place A_t_sort U_t_thrown U_t_tape U_t_taped U_t_size U_t_words (.ref A_t_towns) U_t_op U_t_arg U_t_codes U_t_facts U_t_pile U_t_shadeDay U_t_sun U_t_isShut U_t_sunny U_t_cost U_t_leastCost U_t_leastEnd U_t_wayOf U_t_wayMany U_t_whereAt U_t_reach U_t_likely U_t_crowdAt U_t_crowdBy U_t_crowdRounds U_t_bestSquare U_t_bestBy U_t_spotsMany U_t_spotAt U_t_followed U_t_followOf U_t_toldMany U_t_toldOf U_t_stepsTo U_t_reachOne U_t_isMarked U_t_markOf hw) dX12_readThing_107 mth_X12_takeNumber tml_X12_255 (fun _ _ h => trivial) Fz0_ok (rml (by decide) (by decide)) (Nat.le_of_ble_eq_true rfl) rfl rfl [0, 1, 2, 3] [4] [1, 2, 3, 4, 0] rfl rfl rfl rfl rfl rfl (ci := 12) rfl ⟨0, _, rfl⟩ (fun _ => rfl) rfl (fun _ => rfl) (fun r107 u hw => ?_)
    obtain ⟨t_at_107, t_fault_107⟩ := u
    dsimp only at hw
    show AW X 5 0 0 (w_X12_readThing (cxG X) A_t A_t_value A_t_place A_t_sort A_t_towns U_t_thrown U_t_tape U_t_taped U_t_size U_t_words U_t_op U_t_arg U_t_codes U_t_facts U_t_pile U_t_shadeDay U_t_sun U_t_isShut U_t_sunny U_t_cost U_t_leastCost U_t_leastEnd U_t_wayOf U_t_wayMany U_t_whereAt U_t_reach U_t_likely U_t_crowdAt U_t_crowdBy U_t_crowdRounds U_t_bestSquare U_t_bestBy U_t_spotsMany U_t_spotAt U_t_followed U_t_followOf U_t_toldMany U_t_toldOf U_t_stepsTo U_t_reachOne U_t_isMarked U_t_markOf t_at_107 t_fault_107 t_value t_place t_sort t_towns) pl 110 [some (.ref A_t), some (.int l1), some (.int l2), some (.int r90), none] [.int r107]
    exact m_X12_readThing_b110 C hret hw
  · replace hw := hw.2 c_96
    refine a_iconst (pc := 99) C dX12_readThing_99 kc_0 ?_
    refine a_goto (pc := 100) (tgt := 110) C dX12_readThing_100 (by decide) ?_
    exact m_X12_readThing_b110 C hret hw
set_option maxRecDepth 20000 in
theorem m_X12_readThing {X : Ctx} (C : Cok X cX12_readThing 5 RX12 (rmL 2) Fz0) {pl : Pool} {A_t A_t_value A_t_place A_t_sort A_t_towns : Nat} {U_t_thrown U_t_tape U_t_taped U_t_size U_t_words U_t_op U_t_arg U_t_codes U_t_facts U_t_pile U_t_shadeDay U_t_sun U_t_isShut U_t_sunny U_t_cost U_t_leastCost U_t_leastEnd U_t_wayOf U_t_wayMany U_t_whereAt U_t_reach U_t_likely U_t_crowdAt U_t_crowdBy U_t_crowdRounds U_t_bestSquare U_t_bestBy U_t_spotsMany U_t_spotAt U_t_followed U_t_followOf U_t_toldMany U_t_toldOf U_t_stepsTo U_t_reachOne U_t_isMarked U_t_markOf : Value} {t_value : Nat → Int64} {t_place : Nat → Int32} {t_sort : Nat → Int32} {t_at : Int32} {t_fault : Int32} {t_towns : Nat → Int32} {p1 : Int32} {post : Int32 → Int32 → (Nat → Int32) → Prop} (hret : ∀ (w0 : Int32) (w1 : Int32) (w2 : Nat → Int32) (pc : Nat) (lo : List (Option Value)), post w0 w1 w2 → decode cX12_readThing pc = .ok (.return_, 1) → AW X 5 0 0 (w_X12_readThing (cxG X) A_t A_t_value A_t_place A_t_sort A_t_towns U_t_thrown U_t_tape U_t_taped U_t_size U_t_words U_t_op U_t_arg U_t_codes U_t_facts U_t_pile U_t_shadeDay U_t_sun U_t_isShut U_t_sunny U_t_cost U_t_leastCost U_t_leastEnd U_t_wayOf U_t_wayMany U_t_whereAt U_t_reach U_t_likely U_t_crowdAt U_t_crowdBy U_t_crowdRounds U_t_bestSquare U_t_bestBy U_t_spotsMany U_t_spotAt U_t_followed U_t_followOf U_t_toldMany U_t_toldOf U_t_stepsTo U_t_reachOne U_t_isMarked U_t_markOf w0 w1 t_value t_place t_sort w2) pl pc lo []) (hw : wp_X12_readThing t_value t_place t_sort t_at t_fault t_towns p1 post) : AW X 5 0 0 (w_X12_readThing (cxG X) A_t A_t_value A_t_place A_t_sort A_t_towns U_t_thrown U_t_tape U_t_taped U_t_size U_t_words U_t_op U_t_arg U_t_codes U_t_facts U_t_pile U_t_shadeDay U_t_sun U_t_isShut U_t_sunny U_t_cost U_t_leastCost U_t_leastEnd U_t_wayOf U_t_wayMany U_t_whereAt U_t_reach U_t_likely U_t_crowdAt U_t_crowdBy U_t_crowdRounds U_t_bestSquare U_t_bestBy U_t_spotsMany U_t_spotAt U_t_followed U_t_followOf U_t_toldMany U_t_toldOf U_t_stepsTo U_t_reachOne U_t_isMarked U_t_markOf t_at t_fault t_value t_place t_sort t_towns) pl 0 [some (.ref A_t), some (.int p1), none, none, none] [] := by
  refine a_aload_n (pc := 0) (i := 0) C dX12_readThing_0 rfl rfl ?_
  refine a_dup (pc := 1) C dX12_readThing_1 rfl ?_
  refine a_get (pc := 2) C fl_X12_196 dX12_readThing_2 0 rfl rfl ?_
  refine a_iconst (pc := 5) C dX12_readThing_5 kc_1 ?_
  refine a_iadd (pc := 6) C dX12_readThing_6 ?_
  refine a_topi (fun x7 e_x7 => ?_)
  replace hw := hw x7 e_x7
  refine a_putW (pc := 7) (ws' := (w_X12_readThing (cxG X) A_t A_t_value A_t_place A_t_sort A_t_towns U_t_thrown U_t_tape U_t_taped U_t_size U_t_words U_t_op U_t_arg U_t_codes U_t_facts U_t_pile U_t_shadeDay U_t_sun U_t_isShut U_t_sunny U_t_cost U_t_leastCost U_t_leastEnd U_t_wayOf U_t_wayMany U_t_whereAt U_t_reach U_t_likely U_t_crowdAt U_t_crowdBy U_t_crowdRounds U_t_bestSquare U_t_bestBy U_t_spotsMany U_t_spotAt U_t_followed U_t_followOf U_t_toldMany U_t_toldOf U_t_stepsTo U_t_reachOne U_t_isMarked U_t_markOf x7 t_fault t_value t_place t_sort t_towns)) C fl_X12_196 pu_12_7 dX12_readThing_7 0 rfl rfl rfl (Nat.le_of_ble_eq_true rfl) rfl ?_
  refine a_aload_n (pc := 10) (i := 0) C dX12_readThing_10 rfl rfl ?_
  refine a_iconst (pc := 11) C dX12_readThing_11 kc_0 ?_
  refine a_bipush (pc := 12) C dX12_readThing_12 kb_9 ?_
  refine a_callVi (pc := 14) (As := [.int 0, .int 9]) (st := []) (ws' := (fun u => (w_X12_readThing (cxG X) A_t A_t_value A_t_place A_t_sort A_t_towns U_t_thrown U_t_tape U_t_taped U_t_size U_t_words U_t_op U_t_arg U_t_codes U_t_facts U_t_pile U_t_shadeDay U_t_sun U_t_isShut U_t_sunny U_t_cost U_t_leastCost U_t_leastEnd U_t_wayOf U_t_wayMany U_t_whereAt U_t_reach U_t_likely U_t_crowdAt U_t_crowdBy U_t_crowdRounds U_t_bestSquare U_t_bestBy U_t_spotsMany U_t_spotAt U_t_followed U_t_followOf U_t_toldMany U_t_toldOf U_t_stepsTo U_t_reachOne U_t_isMarked U_t_markOf u.1 u.2 t_value t_place t_sort t_towns))) C (c_X12_takeNumber A_t A_t_value A_t_place A_t_sort U_t_thrown U_t_tape U_t_taped U_t_size U_t_words (.ref A_t_towns) U_t_op U_t_arg U_t_codes U_t_facts U_t_pile U_t_shadeDay U_t_sun U_t_isShut U_t_sunny U_t_cost U_t_leastCost U_t_leastEnd U_t_wayOf U_t_wayMany U_t_whereAt U_t_reach U_t_likely U_t_crowdAt U_t_crowdBy U_t_crowdRounds U_t_bestSquare U_t_bestBy U_t_spotsMany U_t_spotAt U_t_followed U_t_followOf U_t_toldMany U_t_toldOf U_t_stepsTo U_t_reachOne U_t_isMarked U_t_markOf hw) dX12_readThing_14 mth_X12_takeNumber tml_X12_255 (fun _ _ h => trivial) Fz0_ok (rml (by decide) (by decide)) (Nat.le_of_ble_eq_true rfl) rfl rfl [0, 1, 2, 3] [4] [1, 2, 3, 4, 0] rfl rfl rfl rfl rfl rfl (ci := 12) rfl ⟨0, _, rfl⟩ (fun _ => rfl) rfl (fun _ => rfl) (fun r14 u hw => ?_)
  obtain ⟨t_at_14, t_fault_14⟩ := u
  dsimp only at hw
  show AW X 5 0 0 (w_X12_readThing (cxG X) A_t A_t_value A_t_place A_t_sort A_t_towns U_t_thrown U_t_tape U_t_taped U_t_size U_t_words U_t_op U_t_arg U_t_codes U_t_facts U_t_pile U_t_shadeDay U_t_sun U_t_isShut U_t_sunny U_t_cost U_t_leastCost U_t_leastEnd U_t_wayOf U_t_wayMany U_t_whereAt U_t_reach U_t_likely U_t_crowdAt U_t_crowdBy U_t_crowdRounds U_t_bestSquare U_t_bestBy U_t_spotsMany U_t_spotAt U_t_followed U_t_followOf U_t_toldMany U_t_toldOf U_t_stepsTo U_t_reachOne U_t_isMarked U_t_markOf t_at_14 t_fault_14 t_value t_place t_sort t_towns) pl 17 [some (.ref A_t), some (.int p1), none, none, none] [.int r14]
  refine s_istore_n (pc := 17) (i := 2) (lo' := [some (.ref A_t), some (.int p1), some (.int r14), none, none]) C dX12_readThing_17 rfl (by decide) rfl rfl ?_
  refine a_aload_n (pc := 18) (i := 0) C dX12_readThing_18 rfl rfl ?_
  refine a_get (pc := 19) C fl_X12_199 dX12_readThing_19 0 rfl rfl ?_
  refine a_if_ne (pc := 22) (tgt := 86) C dX12_readThing_22 (by decide) (fun c_22 => ?_) (fun c_22 => ?_)
  · replace hw := hw.1 c_22
    exact m_X12_readThing_b86 C hret hw
  · replace hw := hw.2 c_22
    refine a_aload_n (pc := 25) (i := 0) C dX12_readThing_25 rfl rfl ?_
    refine a_get (pc := 26) C fl_X12_24 dX12_readThing_26 0 rfl rfl ?_
    refine a_aload_n (pc := 29) (i := 0) C dX12_readThing_29 rfl rfl ?_
    refine a_get (pc := 30) C fl_X12_196 dX12_readThing_30 0 rfl rfl ?_
    obtain ⟨i_33, hw⟩ := hw
    refine a_iald (pc := 33) C dX12_readThing_33 3 rfl i_33 ?_
    refine a_iconst (pc := 34) C dX12_readThing_34 kc_2 ?_
    refine a_icmp_ne (pc := 35) (tgt := 86) C dX12_readThing_35 (by decide) (fun c_35 => ?_) (fun c_35 => ?_)
    · replace hw := hw.1 c_35
      exact m_X12_readThing_b86 C hret hw
    · replace hw := hw.2 c_35
      refine a_aload_n (pc := 38) (i := 0) C dX12_readThing_38 rfl rfl ?_
      refine a_get (pc := 39) C fl_X12_30 dX12_readThing_39 0 rfl rfl ?_
      refine a_aload_n (pc := 42) (i := 0) C dX12_readThing_42 rfl rfl ?_
      refine a_get (pc := 43) C fl_X12_196 dX12_readThing_43 0 rfl rfl ?_
      obtain ⟨i_46, hw⟩ := hw
      refine a_lald (pc := 46) C dX12_readThing_46 1 rfl i_46 ?_
      refine a_ldc2 (pc := 47) C dX12_readThing_47 tk_X12_189 ?_
      refine a_lcmp (pc := 50) C dX12_readThing_50 ?_
      refine a_if_ge (pc := 51) (tgt := 86) C dX12_readThing_51 (by decide) (fun c_51 => ?_) (fun c_51 => ?_)
      · replace hw := hw.1 c_51
        exact m_X12_readThing_b86 C hret hw
      · replace hw := hw.2 c_51
        refine a_aload_n (pc := 54) (i := 0) C dX12_readThing_54 rfl rfl ?_
        refine a_get (pc := 55) C fl_X12_97 dX12_readThing_55 0 rfl rfl ?_
        refine a_sipush (pc := 58) C dX12_readThing_58 ks_440 ?_
        refine a_bipush (pc := 61) C dX12_readThing_61 kb_10 ?_
        refine a_aload_n (pc := 63) (i := 0) C dX12_readThing_63 rfl rfl ?_
        refine a_get (pc := 64) C fl_X12_30 dX12_readThing_64 0 rfl rfl ?_
        refine a_aload_n (pc := 67) (i := 0) C dX12_readThing_67 rfl rfl ?_
        refine a_get (pc := 68) C fl_X12_196 dX12_readThing_68 0 rfl rfl ?_
        obtain ⟨i_71, hw⟩ := hw
        refine a_lald (pc := 71) C dX12_readThing_71 1 rfl i_71 ?_
        refine a_l2i (pc := 72) C dX12_readThing_72 ?_
        refine a_imul (pc := 73) C dX12_readThing_73 ?_
        refine a_iadd (pc := 74) C dX12_readThing_74 ?_
        refine a_iload_n (pc := 75) (i := 2) C dX12_readThing_75 rfl rfl ?_
        refine a_iadd (pc := 76) C dX12_readThing_76 ?_
        refine a_topi (fun x77 e_x77 => ?_)
        replace hw := hw x77 e_x77
        obtain ⟨i_77, hw⟩ := hw
        refine a_iald (pc := 77) C dX12_readThing_77 4 rfl i_77 ?_
        refine a_if_le (pc := 78) (tgt := 86) C dX12_readThing_78 (by decide) (fun c_78 => ?_) (fun c_78 => ?_)
        · replace hw := hw.1 c_78
          exact m_X12_readThing_b86 C hret hw
        · replace hw := hw.2 c_78
          refine a_aload_n (pc := 81) (i := 0) C dX12_readThing_81 rfl rfl ?_
          refine a_iconst (pc := 82) C dX12_readThing_82 kc_3 ?_
          refine a_callVv (pc := 83) (As := [.int 3]) (st := []) (ws' := (fun u => (w_X12_readThing (cxG X) A_t A_t_value A_t_place A_t_sort A_t_towns U_t_thrown U_t_tape U_t_taped U_t_size U_t_words U_t_op U_t_arg U_t_codes U_t_facts U_t_pile U_t_shadeDay U_t_sun U_t_isShut U_t_sunny U_t_cost U_t_leastCost U_t_leastEnd U_t_wayOf U_t_wayMany U_t_whereAt U_t_reach U_t_likely U_t_crowdAt U_t_crowdBy U_t_crowdRounds U_t_bestSquare U_t_bestBy U_t_spotsMany U_t_spotAt U_t_followed U_t_followOf U_t_toldMany U_t_toldOf U_t_stepsTo U_t_reachOne U_t_isMarked U_t_markOf t_at_14 u t_value t_place t_sort t_towns))) C (c_X12_wrong A_t A_t_place U_t_thrown U_t_tape U_t_taped U_t_size (.ref A_t_sort) (.ref A_t_value) U_t_words (.ref A_t_towns) U_t_op U_t_arg U_t_codes U_t_facts U_t_pile U_t_shadeDay U_t_sun U_t_isShut U_t_sunny U_t_cost U_t_leastCost U_t_leastEnd U_t_wayOf U_t_wayMany U_t_whereAt U_t_reach U_t_likely U_t_crowdAt U_t_crowdBy U_t_crowdRounds U_t_bestSquare U_t_bestBy U_t_spotsMany U_t_spotAt U_t_followed U_t_followOf U_t_toldMany U_t_toldOf U_t_stepsTo U_t_reachOne U_t_isMarked U_t_markOf hw) dX12_readThing_83 mth_X12_wrong tml_X12_205 (fun _ _ h => trivial) Fz0_ok (rml (by decide) (by decide)) (Nat.le_of_ble_eq_true rfl) rfl rfl [0, 2] [1, 3, 4] [3, 0, 4, 1, 2] rfl rfl rfl rfl rfl rfl (ci := 12) rfl ⟨0, _, rfl⟩ (fun _ => rfl) rfl (fun _ => rfl) (fun u hw => ?_)
          obtain ⟨t_fault_83, rfl⟩ : ∃ z, z = u := ⟨_, rfl⟩
          show AW X 5 0 0 (w_X12_readThing (cxG X) A_t A_t_value A_t_place A_t_sort A_t_towns U_t_thrown U_t_tape U_t_taped U_t_size U_t_words U_t_op U_t_arg U_t_codes U_t_facts U_t_pile U_t_shadeDay U_t_sun U_t_isShut U_t_sunny U_t_cost U_t_leastCost U_t_leastEnd U_t_wayOf U_t_wayMany U_t_whereAt U_t_reach U_t_likely U_t_crowdAt U_t_crowdBy U_t_crowdRounds U_t_bestSquare U_t_bestBy U_t_spotsMany U_t_spotAt U_t_followed U_t_followOf U_t_toldMany U_t_toldOf U_t_stepsTo U_t_reachOne U_t_isMarked U_t_markOf t_at_14 t_fault_83 t_value t_place t_sort t_towns) pl 86 [some (.ref A_t), some (.int p1), some (.int r14), none, none] []
          exact m_X12_readThing_b86 C hret hw
theorem c_X12_readThing {l : Launch} {g : GG} {pl : Pool} (A_t A_t_value A_t_place A_t_sort A_t_towns : Nat) (U_t_thrown U_t_tape U_t_taped U_t_size U_t_words U_t_op U_t_arg U_t_codes U_t_facts U_t_pile U_t_shadeDay U_t_sun U_t_isShut U_t_sunny U_t_cost U_t_leastCost U_t_leastEnd U_t_wayOf U_t_wayMany U_t_whereAt U_t_reach U_t_likely U_t_crowdAt U_t_crowdBy U_t_crowdRounds U_t_bestSquare U_t_bestBy U_t_spotsMany U_t_spotAt U_t_followed U_t_followOf U_t_toldMany U_t_toldOf U_t_stepsTo U_t_reachOne U_t_isMarked U_t_markOf : Value) {t_value : Nat → Int64} {t_place : Nat → Int32} {t_sort : Nat → Int32} {t_at : Int32} {t_fault : Int32} {t_towns : Nat → Int32} {p1 : Int32} {post : Int32 → Int32 → (Nat → Int32) → Prop} (hw : wp_X12_readThing t_value t_place t_sort t_at t_fault t_towns p1 post) : MV l yX12_readThing cX12_readThing 5 (none : Option Jvm.ClassFile.FieldType) (rmL 2) g Fz0 [.ref A_t, .int p1] (w_X12_readThing g A_t A_t_value A_t_place A_t_sort A_t_towns U_t_thrown U_t_tape U_t_taped U_t_size U_t_words U_t_op U_t_arg U_t_codes U_t_facts U_t_pile U_t_shadeDay U_t_sun U_t_isShut U_t_sunny U_t_cost U_t_leastCost U_t_leastEnd U_t_wayOf U_t_wayMany U_t_whereAt U_t_reach U_t_likely U_t_crowdAt U_t_crowdBy U_t_crowdRounds U_t_bestSquare U_t_bestBy U_t_spotsMany U_t_spotAt U_t_followed U_t_followOf U_t_toldMany U_t_toldOf U_t_stepsTo U_t_reachOne U_t_isMarked U_t_markOf t_at t_fault t_value t_place t_sort t_towns) pl (fun (u : Int32 × Int32 × (Nat → Int32)) => post u.1 u.2.1 u.2.2) (fun u => (w_X12_readThing g A_t A_t_value A_t_place A_t_sort A_t_towns U_t_thrown U_t_tape U_t_taped U_t_size U_t_words U_t_op U_t_arg U_t_codes U_t_facts U_t_pile U_t_shadeDay U_t_sun U_t_isShut U_t_sunny U_t_cost U_t_leastCost U_t_leastEnd U_t_wayOf U_t_wayMany U_t_whereAt U_t_reach U_t_likely U_t_crowdAt U_t_crowdBy U_t_crowdRounds U_t_bestSquare U_t_bestBy U_t_spotsMany U_t_spotAt U_t_followed U_t_followOf U_t_toldMany U_t_toldOf U_t_stepsTo U_t_reachOne U_t_isMarked U_t_markOf u.1 u.2.1 t_value t_place t_sort u.2.2)) (fun _ => pl) 0 0 := by
  refine met_v (own := RX12) rfl rfl (Nat.le_of_ble_eq_true rfl) (fun X hg hl C hini hret => ?_)
  subst hg
  subst hl
  exact m_X12_readThing C (fun w0 w1 w2 pc lo hp hd => hret (w0, w1, w2) pc lo hp hd) hw
abbrev w_X12_readWalker (g : GG) (A_t A_t_value A_t_place A_t_sort A_t_words A_t_towns : Nat) (U_t_thrown U_t_tape U_t_taped U_t_size U_t_op U_t_arg U_t_codes U_t_facts U_t_pile U_t_shadeDay U_t_sun U_t_isShut U_t_sunny U_t_cost U_t_leastCost U_t_leastEnd U_t_wayOf U_t_wayMany U_t_whereAt U_t_reach U_t_likely U_t_crowdAt U_t_crowdBy U_t_crowdRounds U_t_bestSquare U_t_bestBy U_t_spotsMany U_t_spotAt U_t_followed U_t_followOf U_t_toldMany U_t_toldOf U_t_stepsTo U_t_reachOne U_t_isMarked U_t_markOf : Value) (t_at : Int32) (t_fault : Int32) (t_value : Nat → Int64) (t_place : Nat → Int32) (t_sort : Nat → Int32) (t_words : Nat → Int64) (t_towns : Nat → Int32) : va_W := [(A_t, ob 12 [U_t_thrown, U_t_tape, U_t_taped, U_t_size, .ref A_t_sort, .ref A_t_place, .ref A_t_value, .int t_at, .int t_fault, .ref A_t_words, .ref A_t_towns, U_t_op, U_t_arg, U_t_codes, U_t_facts, U_t_pile, U_t_shadeDay, U_t_sun, U_t_isShut, U_t_sunny, U_t_cost, U_t_leastCost, U_t_leastEnd, U_t_wayOf, U_t_wayMany, U_t_whereAt, U_t_reach, U_t_likely, U_t_crowdAt, U_t_crowdBy, U_t_crowdRounds, U_t_bestSquare, U_t_bestBy, U_t_spotsMany, U_t_spotAt, U_t_followed, U_t_followOf, U_t_toldMany, U_t_toldOf, U_t_stepsTo, U_t_reachOne, U_t_isMarked, U_t_markOf]), (A_t_value, aJ g 1002 t_value), (A_t_place, aI g 1002 t_place), (A_t_sort, aI g 1002 t_sort), (A_t_words, aJ g 30 t_words), (A_t_towns, aI g 2640 t_towns)]
set_option maxRecDepth 20000 in
theorem m_X12_readWalker_b138 {X : Ctx} (C : Cok X cX12_readWalker 4 RX12 (rmL 3) Fz0) {pl : Pool} {A_t A_t_value A_t_place A_t_sort A_t_words A_t_towns : Nat} {U_t_thrown U_t_tape U_t_taped U_t_size U_t_op U_t_arg U_t_codes U_t_facts U_t_pile U_t_shadeDay U_t_sun U_t_isShut U_t_sunny U_t_cost U_t_leastCost U_t_leastEnd U_t_wayOf U_t_wayMany U_t_whereAt U_t_reach U_t_likely U_t_crowdAt U_t_crowdBy U_t_crowdRounds U_t_bestSquare U_t_bestBy U_t_spotsMany U_t_spotAt U_t_followed U_t_followOf U_t_toldMany U_t_toldOf U_t_stepsTo U_t_reachOne U_t_isMarked U_t_markOf : Value} {t_value : Nat → Int64} {t_place : Nat → Int32} {t_sort : Nat → Int32} {t_words : Nat → Int64} {post : Int32 → Int32 → (Nat → Int32) → Prop} (hret : ∀ (w0 : Int32) (w1 : Int32) (w2 : Nat → Int32) (pc : Nat) (lo : List (Option Value)), post w0 w1 w2 → decode cX12_readWalker pc = .ok (.return_, 1) → AW X 4 0 0 (w_X12_readWalker (cxG X) A_t A_t_value A_t_place A_t_sort A_t_words A_t_towns U_t_thrown U_t_tape U_t_taped U_t_size U_t_op U_t_arg U_t_codes U_t_facts U_t_pile U_t_shadeDay U_t_sun U_t_isShut U_t_sunny U_t_cost U_t_leastCost U_t_leastEnd U_t_wayOf U_t_wayMany U_t_whereAt U_t_reach U_t_likely U_t_crowdAt U_t_crowdBy U_t_crowdRounds U_t_bestSquare U_t_bestBy U_t_spotsMany U_t_spotAt U_t_followed U_t_followOf U_t_toldMany U_t_toldOf U_t_stepsTo U_t_reachOne U_t_isMarked U_t_markOf w0 w1 t_value t_place t_sort t_words w2) pl pc lo []) {x_170 : Int32 → Int32 → (Nat → Int32) → Int32 → Prop} {kb : Int32 × Int32 × (Nat → Int32) × Int32 × Int32 → Prop} (hkb : ∀ (t_at : Int32) (t_fault : Int32) (t_towns : Nat → Int32) (l1 : Int32) (l2 : Int32) , kb (t_at, t_fault, t_towns, l1, l2) → AW X 4 0 0 (w_X12_readWalker (cxG X) A_t A_t_value A_t_place A_t_sort A_t_words A_t_towns U_t_thrown U_t_tape U_t_taped U_t_size U_t_op U_t_arg U_t_codes U_t_facts U_t_pile U_t_shadeDay U_t_sun U_t_isShut U_t_sunny U_t_cost U_t_leastCost U_t_leastEnd U_t_wayOf U_t_wayMany U_t_whereAt U_t_reach U_t_likely U_t_crowdAt U_t_crowdBy U_t_crowdRounds U_t_bestSquare U_t_bestBy U_t_spotsMany U_t_spotAt U_t_followed U_t_followOf U_t_toldMany U_t_toldOf U_t_stepsTo U_t_reachOne U_t_isMarked U_t_markOf t_at t_fault t_value t_place t_sort t_words t_towns) pl 92 [some (.ref A_t), some (.int l1), some (.int l2), none] []) (hx_170 : ∀ (t_at : Int32) (t_fault : Int32) (t_towns : Nat → Int32) (l1 : Int32) , x_170 t_at t_fault t_towns l1 → AW X 4 0 0 (w_X12_readWalker (cxG X) A_t A_t_value A_t_place A_t_sort A_t_words A_t_towns U_t_thrown U_t_tape U_t_taped U_t_size U_t_op U_t_arg U_t_codes U_t_facts U_t_pile U_t_shadeDay U_t_sun U_t_isShut U_t_sunny U_t_cost U_t_leastCost U_t_leastEnd U_t_wayOf U_t_wayMany U_t_whereAt U_t_reach U_t_likely U_t_crowdAt U_t_crowdBy U_t_crowdRounds U_t_bestSquare U_t_bestBy U_t_spotsMany U_t_spotAt U_t_followed U_t_followOf U_t_toldMany U_t_toldOf U_t_stepsTo U_t_reachOne U_t_isMarked U_t_markOf t_at t_fault t_value t_place t_sort t_words t_towns) pl 170 [some (.ref A_t), some (.int l1), none, none] []) {t_at : Int32} {t_fault : Int32} {t_towns : Nat → Int32} {l1 : Int32} {l2 : Int32} {s0 : Int32} {s1 : Int32} (hw : wp_X12_readWalker_b138  x_170 kb t_value t_place t_sort t_words post t_at t_fault t_towns l1 l2 s0 s1) : AW X 4 0 0 (w_X12_readWalker (cxG X) A_t A_t_value A_t_place A_t_sort A_t_words A_t_towns U_t_thrown U_t_tape U_t_taped U_t_size U_t_op U_t_arg U_t_codes U_t_facts U_t_pile U_t_shadeDay U_t_sun U_t_isShut U_t_sunny U_t_cost U_t_leastCost U_t_leastEnd U_t_wayOf U_t_wayMany U_t_whereAt U_t_reach U_t_likely U_t_crowdAt U_t_crowdBy U_t_crowdRounds U_t_bestSquare U_t_bestBy U_t_spotsMany U_t_spotAt U_t_followed U_t_followOf U_t_toldMany U_t_toldOf U_t_stepsTo U_t_reachOne U_t_isMarked U_t_markOf t_at t_fault t_value t_place t_sort t_words t_towns) pl 138 [some (.ref A_t), some (.int l1), some (.int l2), none] [.int s0, .int s1, .ref A_t] := by
  replace hw : wp_X12_takeNumber t_value t_place t_sort t_at t_fault s1 s0 (fun r138 t_at_138 t_fault_138 => (¬ t_fault_138 = 0 → (∀ x163 : Int32, x163 = ((l1 + 1) + l2) → (vp_in x163 2640 ∧ (∀ t_towns_163 : Nat → Int32, t_towns_163 = upd t_towns (Int32.toNatClampNeg x163) 0 → (∀ y164 : Int32, y164 = l2 + 1 → (kb (t_at_138, t_fault_138, t_towns_163, l1, y164))))))) ∧ (t_fault_138 = 0 → (∀ x163 : Int32, x163 = ((l1 + 1) + l2) → (vp_in x163 2640 ∧ (∀ t_towns_163 : Nat → Int32, t_towns_163 = upd t_towns (Int32.toNatClampNeg x163) r138 → (∀ y164 : Int32, y164 = l2 + 1 → (kb (t_at_138, t_fault_138, t_towns_163, l1, y164)))))))) := hw
  refine a_callVi (pc := 138) (As := [.int s1, .int s0]) (st := []) (ws' := (fun u => (w_X12_readWalker (cxG X) A_t A_t_value A_t_place A_t_sort A_t_words A_t_towns U_t_thrown U_t_tape U_t_taped U_t_size U_t_op U_t_arg U_t_codes U_t_facts U_t_pile U_t_shadeDay U_t_sun U_t_isShut U_t_sunny U_t_cost U_t_leastCost U_t_leastEnd U_t_wayOf U_t_wayMany U_t_whereAt U_t_reach U_t_likely U_t_crowdAt U_t_crowdBy U_t_crowdRounds U_t_bestSquare U_t_bestBy U_t_spotsMany U_t_spotAt U_t_followed U_t_followOf U_t_toldMany U_t_toldOf U_t_stepsTo U_t_reachOne U_t_isMarked U_t_markOf u.1 u.2 t_value t_place t_sort t_words t_towns))) C (c_X12_takeNumber A_t A_t_value A_t_place A_t_sort U_t_thrown U_t_tape U_t_taped U_t_size (.ref A_t_words) (.ref A_t_towns) U_t_op U_t_arg U_t_codes U_t_facts U_t_pile U_t_shadeDay U_t_sun U_t_isShut U_t_sunny U_t_cost U_t_leastCost U_t_leastEnd U_t_wayOf U_t_wayMany U_t_whereAt U_t_reach U_t_likely U_t_crowdAt U_t_crowdBy U_t_crowdRounds U_t_bestSquare U_t_bestBy U_t_spotsMany U_t_spotAt U_t_followed U_t_followOf U_t_toldMany U_t_toldOf U_t_stepsTo U_t_reachOne U_t_isMarked U_t_markOf hw) dX12_readWalker_138 mth_X12_takeNumber tml_X12_255 (fun _ _ h => trivial) Fz0_ok (rml (by decide) (by decide)) (Nat.le_of_ble_eq_true rfl) rfl rfl [0, 1, 2, 3] [4, 5] [2, 3, 4, 5, 0, 1] rfl rfl rfl rfl rfl rfl (ci := 12) rfl ⟨0, _, rfl⟩ (fun _ => rfl) rfl (fun _ => rfl) (fun r138 u hw => ?_)
  obtain ⟨t_at_138, t_fault_138⟩ := u
  dsimp only at hw
  show AW X 4 0 0 (w_X12_readWalker (cxG X) A_t A_t_value A_t_place A_t_sort A_t_words A_t_towns U_t_thrown U_t_tape U_t_taped U_t_size U_t_op U_t_arg U_t_codes U_t_facts U_t_pile U_t_shadeDay U_t_sun U_t_isShut U_t_sunny U_t_cost U_t_leastCost U_t_leastEnd U_t_wayOf U_t_wayMany U_t_whereAt U_t_reach U_t_likely U_t_crowdAt U_t_crowdBy U_t_crowdRounds U_t_bestSquare U_t_bestBy U_t_spotsMany U_t_spotAt U_t_followed U_t_followOf U_t_toldMany U_t_toldOf U_t_stepsTo U_t_reachOne U_t_isMarked U_t_markOf t_at_138 t_fault_138 t_value t_place t_sort t_words t_towns) pl 141 [some (.ref A_t), some (.int l1), some (.int l2), none] [.int r138]
  refine s_istore_n (pc := 141) (i := 3) (lo' := [some (.ref A_t), some (.int l1), some (.int l2), some (.int r138)]) C dX12_readWalker_141 rfl (by decide) rfl rfl ?_
  refine a_aload_n (pc := 142) (i := 0) C dX12_readWalker_142 rfl rfl ?_
  refine a_get (pc := 143) C fl_X12_97 dX12_readWalker_143 0 rfl rfl ?_
  refine a_iload_n (pc := 146) (i := 1) C dX12_readWalker_146 rfl rfl ?_
  refine a_iconst (pc := 147) C dX12_readWalker_147 kc_1 ?_
  refine a_iadd (pc := 148) C dX12_readWalker_148 ?_
  refine a_iload_n (pc := 149) (i := 2) C dX12_readWalker_149 rfl rfl ?_
  refine a_iadd (pc := 150) C dX12_readWalker_150 ?_
  refine a_aload_n (pc := 151) (i := 0) C dX12_readWalker_151 rfl rfl ?_
  refine a_get (pc := 152) C fl_X12_199 dX12_readWalker_152 0 rfl rfl ?_
  refine a_if_ne (pc := 155) (tgt := 162) C dX12_readWalker_155 (by decide) (fun c_155 => ?_) (fun c_155 => ?_)
  · replace hw := hw.1 c_155
    refine a_iconst (pc := 162) C dX12_readWalker_162 kc_0 ?_
    refine a_top2i (fun x163 e_x163 => ?_)
    replace hw := hw x163 e_x163
    obtain ⟨i_163, hw⟩ := hw
    refine a_iastW (pc := 163) C (fun h => (w_X12_readWalker (cxG X) A_t A_t_value A_t_place A_t_sort A_t_words A_t_towns U_t_thrown U_t_tape U_t_taped U_t_size U_t_op U_t_arg U_t_codes U_t_facts U_t_pile U_t_shadeDay U_t_sun U_t_isShut U_t_sunny U_t_cost U_t_leastCost U_t_leastEnd U_t_wayOf U_t_wayMany U_t_whereAt U_t_reach U_t_likely U_t_crowdAt U_t_crowdBy U_t_crowdRounds U_t_bestSquare U_t_bestBy U_t_spotsMany U_t_spotAt U_t_followed U_t_followOf U_t_toldMany U_t_toldOf U_t_stepsTo U_t_reachOne U_t_isMarked U_t_markOf t_at_138 t_fault_138 t_value t_place t_sort t_words h)) dX12_readWalker_163 5 rfl i_163 (fun _ => rfl) (fun t_towns_163 e_t_towns_163 => ?_)
    replace hw := hw t_towns_163 e_t_towns_163
    refine a_inc (pc := 164) (i := 2) C (fun y => [some (.ref A_t), some (.int l1), some (.int y), some (.int r138)]) dX12_readWalker_164 rfl kc_1 (by decide) rfl (fun _ => rfl) (fun y164 e_y164 => ?_)
    replace hw := hw y164 e_y164
    refine a_goto (pc := 167) (tgt := 92) C dX12_readWalker_167 (by decide) ?_
    refine a_msk [true, true, true, false] rfl ?_
    exact hkb _ _ _ _ _ hw
  · replace hw := hw.2 c_155
    refine a_iload_n (pc := 158) (i := 3) C dX12_readWalker_158 rfl rfl ?_
    refine a_goto (pc := 159) (tgt := 163) C dX12_readWalker_159 (by decide) ?_
    refine a_top2i (fun x163 e_x163 => ?_)
    replace hw := hw x163 e_x163
    obtain ⟨i_163, hw⟩ := hw
    refine a_iastW (pc := 163) C (fun h => (w_X12_readWalker (cxG X) A_t A_t_value A_t_place A_t_sort A_t_words A_t_towns U_t_thrown U_t_tape U_t_taped U_t_size U_t_op U_t_arg U_t_codes U_t_facts U_t_pile U_t_shadeDay U_t_sun U_t_isShut U_t_sunny U_t_cost U_t_leastCost U_t_leastEnd U_t_wayOf U_t_wayMany U_t_whereAt U_t_reach U_t_likely U_t_crowdAt U_t_crowdBy U_t_crowdRounds U_t_bestSquare U_t_bestBy U_t_spotsMany U_t_spotAt U_t_followed U_t_followOf U_t_toldMany U_t_toldOf U_t_stepsTo U_t_reachOne U_t_isMarked U_t_markOf t_at_138 t_fault_138 t_value t_place t_sort t_words h)) dX12_readWalker_163 5 rfl i_163 (fun _ => rfl) (fun t_towns_163 e_t_towns_163 => ?_)
    replace hw := hw t_towns_163 e_t_towns_163
    refine a_inc (pc := 164) (i := 2) C (fun y => [some (.ref A_t), some (.int l1), some (.int y), some (.int r138)]) dX12_readWalker_164 rfl kc_1 (by decide) rfl (fun _ => rfl) (fun y164 e_y164 => ?_)
    replace hw := hw y164 e_y164
    refine a_goto (pc := 167) (tgt := 92) C dX12_readWalker_167 (by decide) ?_
    refine a_msk [true, true, true, false] rfl ?_
    exact hkb _ _ _ _ _ hw
set_option maxRecDepth 20000 in
theorem m_X12_readWalker_b117 {X : Ctx} (C : Cok X cX12_readWalker 4 RX12 (rmL 3) Fz0) {pl : Pool} {A_t A_t_value A_t_place A_t_sort A_t_words A_t_towns : Nat} {U_t_thrown U_t_tape U_t_taped U_t_size U_t_op U_t_arg U_t_codes U_t_facts U_t_pile U_t_shadeDay U_t_sun U_t_isShut U_t_sunny U_t_cost U_t_leastCost U_t_leastEnd U_t_wayOf U_t_wayMany U_t_whereAt U_t_reach U_t_likely U_t_crowdAt U_t_crowdBy U_t_crowdRounds U_t_bestSquare U_t_bestBy U_t_spotsMany U_t_spotAt U_t_followed U_t_followOf U_t_toldMany U_t_toldOf U_t_stepsTo U_t_reachOne U_t_isMarked U_t_markOf : Value} {t_value : Nat → Int64} {t_place : Nat → Int32} {t_sort : Nat → Int32} {t_words : Nat → Int64} {post : Int32 → Int32 → (Nat → Int32) → Prop} (hret : ∀ (w0 : Int32) (w1 : Int32) (w2 : Nat → Int32) (pc : Nat) (lo : List (Option Value)), post w0 w1 w2 → decode cX12_readWalker pc = .ok (.return_, 1) → AW X 4 0 0 (w_X12_readWalker (cxG X) A_t A_t_value A_t_place A_t_sort A_t_words A_t_towns U_t_thrown U_t_tape U_t_taped U_t_size U_t_op U_t_arg U_t_codes U_t_facts U_t_pile U_t_shadeDay U_t_sun U_t_isShut U_t_sunny U_t_cost U_t_leastCost U_t_leastEnd U_t_wayOf U_t_wayMany U_t_whereAt U_t_reach U_t_likely U_t_crowdAt U_t_crowdBy U_t_crowdRounds U_t_bestSquare U_t_bestBy U_t_spotsMany U_t_spotAt U_t_followed U_t_followOf U_t_toldMany U_t_toldOf U_t_stepsTo U_t_reachOne U_t_isMarked U_t_markOf w0 w1 t_value t_place t_sort t_words w2) pl pc lo []) {x_170 : Int32 → Int32 → (Nat → Int32) → Int32 → Prop} {kb : Int32 × Int32 × (Nat → Int32) × Int32 × Int32 → Prop} (hkb : ∀ (t_at : Int32) (t_fault : Int32) (t_towns : Nat → Int32) (l1 : Int32) (l2 : Int32) , kb (t_at, t_fault, t_towns, l1, l2) → AW X 4 0 0 (w_X12_readWalker (cxG X) A_t A_t_value A_t_place A_t_sort A_t_words A_t_towns U_t_thrown U_t_tape U_t_taped U_t_size U_t_op U_t_arg U_t_codes U_t_facts U_t_pile U_t_shadeDay U_t_sun U_t_isShut U_t_sunny U_t_cost U_t_leastCost U_t_leastEnd U_t_wayOf U_t_wayMany U_t_whereAt U_t_reach U_t_likely U_t_crowdAt U_t_crowdBy U_t_crowdRounds U_t_bestSquare U_t_bestBy U_t_spotsMany U_t_spotAt U_t_followed U_t_followOf U_t_toldMany U_t_toldOf U_t_stepsTo U_t_reachOne U_t_isMarked U_t_markOf t_at t_fault t_value t_place t_sort t_words t_towns) pl 92 [some (.ref A_t), some (.int l1), some (.int l2), none] []) (hx_170 : ∀ (t_at : Int32) (t_fault : Int32) (t_towns : Nat → Int32) (l1 : Int32) , x_170 t_at t_fault t_towns l1 → AW X 4 0 0 (w_X12_readWalker (cxG X) A_t A_t_value A_t_place A_t_sort A_t_words A_t_towns U_t_thrown U_t_tape U_t_taped U_t_size U_t_op U_t_arg U_t_codes U_t_facts U_t_pile U_t_shadeDay U_t_sun U_t_isShut U_t_sunny U_t_cost U_t_leastCost U_t_leastEnd U_t_wayOf U_t_wayMany U_t_whereAt U_t_reach U_t_likely U_t_crowdAt U_t_crowdBy U_t_crowdRounds U_t_bestSquare U_t_bestBy U_t_spotsMany U_t_spotAt U_t_followed U_t_followOf U_t_toldMany U_t_toldOf U_t_stepsTo U_t_reachOne U_t_isMarked U_t_markOf t_at t_fault t_value t_place t_sort t_words t_towns) pl 170 [some (.ref A_t), some (.int l1), none, none] []) {t_at : Int32} {t_fault : Int32} {t_towns : Nat → Int32} {l1 : Int32} {l2 : Int32} {s0 : Int32} (hw : wp_X12_readWalker_b117  x_170 kb t_value t_place t_sort t_words post t_at t_fault t_towns l1 l2 s0) : AW X 4 0 0 (w_X12_readWalker (cxG X) A_t A_t_value A_t_place A_t_sort A_t_words A_t_towns U_t_thrown U_t_tape U_t_taped U_t_size U_t_op U_t_arg U_t_codes U_t_facts U_t_pile U_t_shadeDay U_t_sun U_t_isShut U_t_sunny U_t_cost U_t_leastCost U_t_leastEnd U_t_wayOf U_t_wayMany U_t_whereAt U_t_reach U_t_likely U_t_crowdAt U_t_crowdBy U_t_crowdRounds U_t_bestSquare U_t_bestBy U_t_spotsMany U_t_spotAt U_t_followed U_t_followOf U_t_toldMany U_t_toldOf U_t_stepsTo U_t_reachOne U_t_isMarked U_t_markOf t_at t_fault t_value t_place t_sort t_words t_towns) pl 117 [some (.ref A_t), some (.int l1), some (.int l2), none] [.int s0, .ref A_t] := by
  refine a_iload_n (pc := 117) (i := 2) C dX12_readWalker_117 rfl rfl ?_
  refine a_if_ne (pc := 118) (tgt := 125) C dX12_readWalker_118 (by decide) (fun c_118 => ?_) (fun c_118 => ?_)
  · replace hw := hw.1 c_118
    refine a_iload_n (pc := 125) (i := 2) C dX12_readWalker_125 rfl rfl ?_
    refine a_iconst (pc := 126) C dX12_readWalker_126 kc_3 ?_
    refine a_icmp_ne (pc := 127) (tgt := 136) C dX12_readWalker_127 (by decide) (fun c_127 => ?_) (fun c_127 => ?_)
    · replace hw := hw.1 c_127
      refine a_bipush (pc := 136) C dX12_readWalker_136 kb_99 ?_
      exact m_X12_readWalker_b138 C hret (kb := kb) hkb hx_170 hw
    · replace hw := hw.2 c_127
      refine a_sipush (pc := 130) C dX12_readWalker_130 ks_9999 ?_
      refine a_goto (pc := 133) (tgt := 138) C dX12_readWalker_133 (by decide) ?_
      exact m_X12_readWalker_b138 C hret (kb := kb) hkb hx_170 hw
  · replace hw := hw.2 c_118
    refine a_iconst (pc := 121) C dX12_readWalker_121 kc_3 ?_
    refine a_goto (pc := 122) (tgt := 138) C dX12_readWalker_122 (by decide) ?_
    exact m_X12_readWalker_b138 C hret (kb := kb) hkb hx_170 hw
set_option maxRecDepth 20000 in
theorem m_X12_readWalker_L92 {X : Ctx} (C : Cok X cX12_readWalker 4 RX12 (rmL 3) Fz0) {pl : Pool} {A_t A_t_value A_t_place A_t_sort A_t_words A_t_towns : Nat} {U_t_thrown U_t_tape U_t_taped U_t_size U_t_op U_t_arg U_t_codes U_t_facts U_t_pile U_t_shadeDay U_t_sun U_t_isShut U_t_sunny U_t_cost U_t_leastCost U_t_leastEnd U_t_wayOf U_t_wayMany U_t_whereAt U_t_reach U_t_likely U_t_crowdAt U_t_crowdBy U_t_crowdRounds U_t_bestSquare U_t_bestBy U_t_spotsMany U_t_spotAt U_t_followed U_t_followOf U_t_toldMany U_t_toldOf U_t_stepsTo U_t_reachOne U_t_isMarked U_t_markOf : Value} {t_value : Nat → Int64} {t_place : Nat → Int32} {t_sort : Nat → Int32} {t_words : Nat → Int64} {post : Int32 → Int32 → (Nat → Int32) → Prop} (hret : ∀ (w0 : Int32) (w1 : Int32) (w2 : Nat → Int32) (pc : Nat) (lo : List (Option Value)), post w0 w1 w2 → decode cX12_readWalker pc = .ok (.return_, 1) → AW X 4 0 0 (w_X12_readWalker (cxG X) A_t A_t_value A_t_place A_t_sort A_t_words A_t_towns U_t_thrown U_t_tape U_t_taped U_t_size U_t_op U_t_arg U_t_codes U_t_facts U_t_pile U_t_shadeDay U_t_sun U_t_isShut U_t_sunny U_t_cost U_t_leastCost U_t_leastEnd U_t_wayOf U_t_wayMany U_t_whereAt U_t_reach U_t_likely U_t_crowdAt U_t_crowdBy U_t_crowdRounds U_t_bestSquare U_t_bestBy U_t_spotsMany U_t_spotAt U_t_followed U_t_followOf U_t_toldMany U_t_toldOf U_t_stepsTo U_t_reachOne U_t_isMarked U_t_markOf w0 w1 t_value t_place t_sort t_words w2) pl pc lo []) {x_170 : Int32 → Int32 → (Nat → Int32) → Int32 → Prop} (hx_170 : ∀ (t_at : Int32) (t_fault : Int32) (t_towns : Nat → Int32) (l1 : Int32) , x_170 t_at t_fault t_towns l1 → AW X 4 0 0 (w_X12_readWalker (cxG X) A_t A_t_value A_t_place A_t_sort A_t_words A_t_towns U_t_thrown U_t_tape U_t_taped U_t_size U_t_op U_t_arg U_t_codes U_t_facts U_t_pile U_t_shadeDay U_t_sun U_t_isShut U_t_sunny U_t_cost U_t_leastCost U_t_leastEnd U_t_wayOf U_t_wayMany U_t_whereAt U_t_reach U_t_likely U_t_crowdAt U_t_crowdBy U_t_crowdRounds U_t_bestSquare U_t_bestBy U_t_spotsMany U_t_spotAt U_t_followed U_t_followOf U_t_toldMany U_t_toldOf U_t_stepsTo U_t_reachOne U_t_isMarked U_t_markOf t_at t_fault t_value t_place t_sort t_words t_towns) pl 170 [some (.ref A_t), some (.int l1), none, none] []) : ∀ (n92 : Nat) (t_at : Int32) (t_fault : Int32) (t_towns : Nat → Int32) (l1 : Int32) (l2 : Int32) , lp (wp_X12_readWalker_L92 x_170 t_value t_place t_sort t_words post) n92 (t_at, t_fault, t_towns, l1, l2) → AW X 4 0 0 (w_X12_readWalker (cxG X) A_t A_t_value A_t_place A_t_sort A_t_words A_t_towns U_t_thrown U_t_tape U_t_taped U_t_size U_t_op U_t_arg U_t_codes U_t_facts U_t_pile U_t_shadeDay U_t_sun U_t_isShut U_t_sunny U_t_cost U_t_leastCost U_t_leastEnd U_t_wayOf U_t_wayMany U_t_whereAt U_t_reach U_t_likely U_t_crowdAt U_t_crowdBy U_t_crowdRounds U_t_bestSquare U_t_bestBy U_t_spotsMany U_t_spotAt U_t_followed U_t_followOf U_t_toldMany U_t_toldOf U_t_stepsTo U_t_reachOne U_t_isMarked U_t_markOf t_at t_fault t_value t_place t_sort t_words t_towns) pl 92 [some (.ref A_t), some (.int l1), some (.int l2), none] [] := by
  intro n92
  induction n92 with
  | zero => exact fun _ _ _ _ _ hw => hw.elim
  | succ n92 hkb =>
    intro t_at t_fault t_towns l1 l2 hw
    replace hw : wp_X12_readWalker_L92 x_170 t_value t_place t_sort t_words post (lp (wp_X12_readWalker_L92 x_170 t_value t_place t_sort t_words post) n92) (t_at, t_fault, t_towns, l1, l2) := hw
    generalize lp (wp_X12_readWalker_L92 x_170 t_value t_place t_sort t_words post) n92 = kb at hw hkb
    refine a_iload_n (pc := 92) (i := 2) C dX12_readWalker_92 rfl rfl ?_
    refine a_bipush (pc := 93) C dX12_readWalker_93 kb_6 ?_
    refine a_icmp_ge (pc := 95) (tgt := 170) C dX12_readWalker_95 (by decide) (fun c_95 => ?_) (fun c_95 => ?_)
    · replace hw := hw.1 c_95
      refine a_msk [true, true, false, true] rfl ?_
      exact hx_170 _ _ _ _ hw
    · replace hw := hw.2 c_95
      refine a_aload_n (pc := 98) (i := 0) C dX12_readWalker_98 rfl rfl ?_
      refine a_bipush (pc := 99) C dX12_readWalker_99 kb_18 ?_
      refine a_iload_n (pc := 101) (i := 2) C dX12_readWalker_101 rfl rfl ?_
      refine a_iadd (pc := 102) C dX12_readWalker_102 ?_
      refine a_callVv (pc := 103) (As := [.int (18 + l2)]) (st := []) (ws' := (fun u => (w_X12_readWalker (cxG X) A_t A_t_value A_t_place A_t_sort A_t_words A_t_towns U_t_thrown U_t_tape U_t_taped U_t_size U_t_op U_t_arg U_t_codes U_t_facts U_t_pile U_t_shadeDay U_t_sun U_t_isShut U_t_sunny U_t_cost U_t_leastCost U_t_leastEnd U_t_wayOf U_t_wayMany U_t_whereAt U_t_reach U_t_likely U_t_crowdAt U_t_crowdBy U_t_crowdRounds U_t_bestSquare U_t_bestBy U_t_spotsMany U_t_spotAt U_t_followed U_t_followOf U_t_toldMany U_t_toldOf U_t_stepsTo U_t_reachOne U_t_isMarked U_t_markOf u.1 u.2 t_value t_place t_sort t_words t_towns))) C (c_X12_takeWord A_t A_t_sort A_t_value A_t_words A_t_place U_t_thrown U_t_tape U_t_taped U_t_size (.ref A_t_towns) U_t_op U_t_arg U_t_codes U_t_facts U_t_pile U_t_shadeDay U_t_sun U_t_isShut U_t_sunny U_t_cost U_t_leastCost U_t_leastEnd U_t_wayOf U_t_wayMany U_t_whereAt U_t_reach U_t_likely U_t_crowdAt U_t_crowdBy U_t_crowdRounds U_t_bestSquare U_t_bestBy U_t_spotsMany U_t_spotAt U_t_followed U_t_followOf U_t_toldMany U_t_toldOf U_t_stepsTo U_t_reachOne U_t_isMarked U_t_markOf hw) dX12_readWalker_103 mth_X12_takeWord tml_X12_259 (fun _ _ h => trivial) Fz0_ok (rml (by decide) (by decide)) (Nat.le_of_ble_eq_true rfl) rfl rfl [0, 3, 1, 4, 2] [5] [1, 3, 5, 2, 4, 0] rfl rfl rfl rfl rfl rfl (ci := 12) rfl ⟨0, _, rfl⟩ (fun _ => rfl) rfl (fun _ => rfl) (fun u hw => ?_)
      obtain ⟨t_at_103, t_fault_103⟩ := u
      dsimp only at hw
      show AW X 4 0 0 (w_X12_readWalker (cxG X) A_t A_t_value A_t_place A_t_sort A_t_words A_t_towns U_t_thrown U_t_tape U_t_taped U_t_size U_t_op U_t_arg U_t_codes U_t_facts U_t_pile U_t_shadeDay U_t_sun U_t_isShut U_t_sunny U_t_cost U_t_leastCost U_t_leastEnd U_t_wayOf U_t_wayMany U_t_whereAt U_t_reach U_t_likely U_t_crowdAt U_t_crowdBy U_t_crowdRounds U_t_bestSquare U_t_bestBy U_t_spotsMany U_t_spotAt U_t_followed U_t_followOf U_t_toldMany U_t_toldOf U_t_stepsTo U_t_reachOne U_t_isMarked U_t_markOf t_at_103 t_fault_103 t_value t_place t_sort t_words t_towns) pl 106 [some (.ref A_t), some (.int l1), some (.int l2), none] []
      refine a_aload_n (pc := 106) (i := 0) C dX12_readWalker_106 rfl rfl ?_
      refine a_iload_n (pc := 107) (i := 2) C dX12_readWalker_107 rfl rfl ?_
      refine a_iconst (pc := 108) C dX12_readWalker_108 kc_3 ?_
      refine a_icmp_ge (pc := 109) (tgt := 116) C dX12_readWalker_109 (by decide) (fun c_109 => ?_) (fun c_109 => ?_)
      · replace hw := hw.1 c_109
        refine a_iconst (pc := 116) C dX12_readWalker_116 kc_0 ?_
        exact m_X12_readWalker_b117 C hret (kb := kb) hkb hx_170 hw
      · replace hw := hw.2 c_109
        refine a_iconst (pc := 112) C dX12_readWalker_112 kc_1 ?_
        refine a_goto (pc := 113) (tgt := 117) C dX12_readWalker_113 (by decide) ?_
        exact m_X12_readWalker_b117 C hret (kb := kb) hkb hx_170 hw
set_option maxRecDepth 20000 in
theorem m_X12_readWalker_b76 {X : Ctx} (C : Cok X cX12_readWalker 4 RX12 (rmL 3) Fz0) {pl : Pool} {A_t A_t_value A_t_place A_t_sort A_t_words A_t_towns : Nat} {U_t_thrown U_t_tape U_t_taped U_t_size U_t_op U_t_arg U_t_codes U_t_facts U_t_pile U_t_shadeDay U_t_sun U_t_isShut U_t_sunny U_t_cost U_t_leastCost U_t_leastEnd U_t_wayOf U_t_wayMany U_t_whereAt U_t_reach U_t_likely U_t_crowdAt U_t_crowdBy U_t_crowdRounds U_t_bestSquare U_t_bestBy U_t_spotsMany U_t_spotAt U_t_followed U_t_followOf U_t_toldMany U_t_toldOf U_t_stepsTo U_t_reachOne U_t_isMarked U_t_markOf : Value} {t_value : Nat → Int64} {t_place : Nat → Int32} {t_sort : Nat → Int32} {t_words : Nat → Int64} {post : Int32 → Int32 → (Nat → Int32) → Prop} (hret : ∀ (w0 : Int32) (w1 : Int32) (w2 : Nat → Int32) (pc : Nat) (lo : List (Option Value)), post w0 w1 w2 → decode cX12_readWalker pc = .ok (.return_, 1) → AW X 4 0 0 (w_X12_readWalker (cxG X) A_t A_t_value A_t_place A_t_sort A_t_words A_t_towns U_t_thrown U_t_tape U_t_taped U_t_size U_t_op U_t_arg U_t_codes U_t_facts U_t_pile U_t_shadeDay U_t_sun U_t_isShut U_t_sunny U_t_cost U_t_leastCost U_t_leastEnd U_t_wayOf U_t_wayMany U_t_whereAt U_t_reach U_t_likely U_t_crowdAt U_t_crowdBy U_t_crowdRounds U_t_bestSquare U_t_bestBy U_t_spotsMany U_t_spotAt U_t_followed U_t_followOf U_t_toldMany U_t_toldOf U_t_stepsTo U_t_reachOne U_t_isMarked U_t_markOf w0 w1 t_value t_place t_sort t_words w2) pl pc lo []) {t_at : Int32} {t_fault : Int32} {t_towns : Nat → Int32} (hw : wp_X12_readWalker_b76  t_value t_place t_sort t_words post t_at t_fault t_towns) : AW X 4 0 0 (w_X12_readWalker (cxG X) A_t A_t_value A_t_place A_t_sort A_t_words A_t_towns U_t_thrown U_t_tape U_t_taped U_t_size U_t_op U_t_arg U_t_codes U_t_facts U_t_pile U_t_shadeDay U_t_sun U_t_isShut U_t_sunny U_t_cost U_t_leastCost U_t_leastEnd U_t_wayOf U_t_wayMany U_t_whereAt U_t_reach U_t_likely U_t_crowdAt U_t_crowdBy U_t_crowdRounds U_t_bestSquare U_t_bestBy U_t_spotsMany U_t_spotAt U_t_followed U_t_followOf U_t_toldMany U_t_toldOf U_t_stepsTo U_t_reachOne U_t_isMarked U_t_markOf t_at t_fault t_value t_place t_sort t_words t_towns) pl 76 [some (.ref A_t), none, none, none] [] := by
  replace hw : wp_X12_takeNumber t_value t_place t_sort t_at t_fault 0 5 (fun r84 t_at_84 t_fault_84 => ∀ x89 : Int32, x89 = (822 + (7 * r84)) → (∃ n, lp (wp_X12_readWalker_L92 (fun t_at t_fault t_towns l1 => (¬ t_fault = 0 → (vp_in l1 2640 ∧ (∀ x192 : Int32, x192 = (t_towns (Int32.toNatClampNeg l1)) → (vp_in l1 2640 ∧ (∀ t_towns_192 : Nat → Int32, t_towns_192 = upd t_towns (Int32.toNatClampNeg l1) x192 → (post t_at t_fault t_towns_192)))))) ∧ (t_fault = 0 → (vp_in l1 2640 ∧ (∀ t_towns_192 : Nat → Int32, t_towns_192 = upd t_towns (Int32.toNatClampNeg l1) 1 → (post t_at t_fault t_towns_192))))) t_value t_place t_sort t_words post) n (t_at_84, t_fault_84, t_towns, x89, 0))) := hw
  refine a_sipush (pc := 76) C dX12_readWalker_76 ks_822 ?_
  refine a_bipush (pc := 79) C dX12_readWalker_79 kb_7 ?_
  refine a_aload_n (pc := 81) (i := 0) C dX12_readWalker_81 rfl rfl ?_
  refine a_iconst (pc := 82) C dX12_readWalker_82 kc_0 ?_
  refine a_iconst (pc := 83) C dX12_readWalker_83 kc_5 ?_
  refine a_callVi (pc := 84) (As := [.int 0, .int 5]) (st := [.int 7, .int 822]) (ws' := (fun u => (w_X12_readWalker (cxG X) A_t A_t_value A_t_place A_t_sort A_t_words A_t_towns U_t_thrown U_t_tape U_t_taped U_t_size U_t_op U_t_arg U_t_codes U_t_facts U_t_pile U_t_shadeDay U_t_sun U_t_isShut U_t_sunny U_t_cost U_t_leastCost U_t_leastEnd U_t_wayOf U_t_wayMany U_t_whereAt U_t_reach U_t_likely U_t_crowdAt U_t_crowdBy U_t_crowdRounds U_t_bestSquare U_t_bestBy U_t_spotsMany U_t_spotAt U_t_followed U_t_followOf U_t_toldMany U_t_toldOf U_t_stepsTo U_t_reachOne U_t_isMarked U_t_markOf u.1 u.2 t_value t_place t_sort t_words t_towns))) C (c_X12_takeNumber A_t A_t_value A_t_place A_t_sort U_t_thrown U_t_tape U_t_taped U_t_size (.ref A_t_words) (.ref A_t_towns) U_t_op U_t_arg U_t_codes U_t_facts U_t_pile U_t_shadeDay U_t_sun U_t_isShut U_t_sunny U_t_cost U_t_leastCost U_t_leastEnd U_t_wayOf U_t_wayMany U_t_whereAt U_t_reach U_t_likely U_t_crowdAt U_t_crowdBy U_t_crowdRounds U_t_bestSquare U_t_bestBy U_t_spotsMany U_t_spotAt U_t_followed U_t_followOf U_t_toldMany U_t_toldOf U_t_stepsTo U_t_reachOne U_t_isMarked U_t_markOf hw) dX12_readWalker_84 mth_X12_takeNumber tml_X12_255 (fun _ _ h => trivial) Fz0_ok (rml (by decide) (by decide)) (Nat.le_of_ble_eq_true rfl) rfl rfl [0, 1, 2, 3] [4, 5] [2, 3, 4, 5, 0, 1] rfl rfl rfl rfl rfl rfl (ci := 12) rfl ⟨0, _, rfl⟩ (fun _ => rfl) rfl (fun _ => rfl) (fun r84 u hw => ?_)
  obtain ⟨t_at_84, t_fault_84⟩ := u
  dsimp only at hw
  show AW X 4 0 0 (w_X12_readWalker (cxG X) A_t A_t_value A_t_place A_t_sort A_t_words A_t_towns U_t_thrown U_t_tape U_t_taped U_t_size U_t_op U_t_arg U_t_codes U_t_facts U_t_pile U_t_shadeDay U_t_sun U_t_isShut U_t_sunny U_t_cost U_t_leastCost U_t_leastEnd U_t_wayOf U_t_wayMany U_t_whereAt U_t_reach U_t_likely U_t_crowdAt U_t_crowdBy U_t_crowdRounds U_t_bestSquare U_t_bestBy U_t_spotsMany U_t_spotAt U_t_followed U_t_followOf U_t_toldMany U_t_toldOf U_t_stepsTo U_t_reachOne U_t_isMarked U_t_markOf t_at_84 t_fault_84 t_value t_place t_sort t_words t_towns) pl 87 [some (.ref A_t), none, none, none] [.int r84, .int 7, .int 822]
  refine a_imul (pc := 87) C dX12_readWalker_87 ?_
  refine a_iadd (pc := 88) C dX12_readWalker_88 ?_
  refine a_topi (fun x89 e_x89 => ?_)
  replace hw := hw x89 e_x89
  refine s_istore_n (pc := 89) (i := 1) (lo' := [some (.ref A_t), some (.int x89), none, none]) C dX12_readWalker_89 rfl (by decide) rfl rfl ?_
  refine a_iconst (pc := 90) C dX12_readWalker_90 kc_0 ?_
  refine s_istore_n (pc := 91) (i := 2) (lo' := [some (.ref A_t), some (.int x89), some (.int 0), none]) C dX12_readWalker_91 rfl (by decide) rfl rfl ?_
  obtain ⟨n92, hw⟩ := hw
  refine m_X12_readWalker_L92 C hret (fun t_at t_fault t_towns l1 hw => ?_) n92 _ _ _ _ _ hw
  refine a_aload_n (pc := 170) (i := 0) C dX12_readWalker_170 rfl rfl ?_
  refine a_get (pc := 171) C fl_X12_97 dX12_readWalker_171 0 rfl rfl ?_
  refine a_iload_n (pc := 174) (i := 1) C dX12_readWalker_174 rfl rfl ?_
  refine a_aload_n (pc := 175) (i := 0) C dX12_readWalker_175 rfl rfl ?_
  refine a_get (pc := 176) C fl_X12_199 dX12_readWalker_176 0 rfl rfl ?_
  refine a_if_ne (pc := 179) (tgt := 186) C dX12_readWalker_179 (by decide) (fun c_179 => ?_) (fun c_179 => ?_)
  · replace hw := hw.1 c_179
    refine a_aload_n (pc := 186) (i := 0) C dX12_readWalker_186 rfl rfl ?_
    refine a_get (pc := 187) C fl_X12_97 dX12_readWalker_187 0 rfl rfl ?_
    refine a_iload_n (pc := 190) (i := 1) C dX12_readWalker_190 rfl rfl ?_
    obtain ⟨i_191, hw⟩ := hw
    refine a_iald (pc := 191) C dX12_readWalker_191 5 rfl i_191 ?_
    refine a_topi (fun x192 e_x192 => ?_)
    replace hw := hw x192 e_x192
    obtain ⟨i_192, hw⟩ := hw
    refine a_iastW (pc := 192) C (fun h => (w_X12_readWalker (cxG X) A_t A_t_value A_t_place A_t_sort A_t_words A_t_towns U_t_thrown U_t_tape U_t_taped U_t_size U_t_op U_t_arg U_t_codes U_t_facts U_t_pile U_t_shadeDay U_t_sun U_t_isShut U_t_sunny U_t_cost U_t_leastCost U_t_leastEnd U_t_wayOf U_t_wayMany U_t_whereAt U_t_reach U_t_likely U_t_crowdAt U_t_crowdBy U_t_crowdRounds U_t_bestSquare U_t_bestBy U_t_spotsMany U_t_spotAt U_t_followed U_t_followOf U_t_toldMany U_t_toldOf U_t_stepsTo U_t_reachOne U_t_isMarked U_t_markOf t_at t_fault t_value t_place t_sort t_words h)) dX12_readWalker_192 5 rfl i_192 (fun _ => rfl) (fun t_towns_192 e_t_towns_192 => ?_)
    replace hw := hw t_towns_192 e_t_towns_192
    exact hret _ _ _ _ _ hw dX12_readWalker_193
  · replace hw := hw.2 c_179
    refine a_iconst (pc := 182) C dX12_readWalker_182 kc_1 ?_
    refine a_goto (pc := 183) (tgt := 192) C dX12_readWalker_183 (by decide) ?_
    obtain ⟨i_192, hw⟩ := hw
    refine a_iastW (pc := 192) C (fun h => (w_X12_readWalker (cxG X) A_t A_t_value A_t_place A_t_sort A_t_words A_t_towns U_t_thrown U_t_tape U_t_taped U_t_size U_t_op U_t_arg U_t_codes U_t_facts U_t_pile U_t_shadeDay U_t_sun U_t_isShut U_t_sunny U_t_cost U_t_leastCost U_t_leastEnd U_t_wayOf U_t_wayMany U_t_whereAt U_t_reach U_t_likely U_t_crowdAt U_t_crowdBy U_t_crowdRounds U_t_bestSquare U_t_bestBy U_t_spotsMany U_t_spotAt U_t_followed U_t_followOf U_t_toldMany U_t_toldOf U_t_stepsTo U_t_reachOne U_t_isMarked U_t_markOf t_at t_fault t_value t_place t_sort t_words h)) dX12_readWalker_192 5 rfl i_192 (fun _ => rfl) (fun t_towns_192 e_t_towns_192 => ?_)
    replace hw := hw t_towns_192 e_t_towns_192
    exact hret _ _ _ _ _ hw dX12_readWalker_193
set_option maxRecDepth 20000 in
theorem m_X12_readWalker {X : Ctx} (C : Cok X cX12_readWalker 4 RX12 (rmL 3) Fz0) {pl : Pool} {A_t A_t_value A_t_place A_t_sort A_t_words A_t_towns : Nat} {U_t_thrown U_t_tape U_t_taped U_t_size U_t_op U_t_arg U_t_codes U_t_facts U_t_pile U_t_shadeDay U_t_sun U_t_isShut U_t_sunny U_t_cost U_t_leastCost U_t_leastEnd U_t_wayOf U_t_wayMany U_t_whereAt U_t_reach U_t_likely U_t_crowdAt U_t_crowdBy U_t_crowdRounds U_t_bestSquare U_t_bestBy U_t_spotsMany U_t_spotAt U_t_followed U_t_followOf U_t_toldMany U_t_toldOf U_t_stepsTo U_t_reachOne U_t_isMarked U_t_markOf : Value} {t_value : Nat → Int64} {t_place : Nat → Int32} {t_sort : Nat → Int32} {t_words : Nat → Int64} {t_at : Int32} {t_fault : Int32} {t_towns : Nat → Int32} {post : Int32 → Int32 → (Nat → Int32) → Prop} (hret : ∀ (w0 : Int32) (w1 : Int32) (w2 : Nat → Int32) (pc : Nat) (lo : List (Option Value)), post w0 w1 w2 → decode cX12_readWalker pc = .ok (.return_, 1) → AW X 4 0 0 (w_X12_readWalker (cxG X) A_t A_t_value A_t_place A_t_sort A_t_words A_t_towns U_t_thrown U_t_tape U_t_taped U_t_size U_t_op U_t_arg U_t_codes U_t_facts U_t_pile U_t_shadeDay U_t_sun U_t_isShut U_t_sunny U_t_cost U_t_leastCost U_t_leastEnd U_t_wayOf U_t_wayMany U_t_whereAt U_t_reach U_t_likely U_t_crowdAt U_t_crowdBy U_t_crowdRounds U_t_bestSquare U_t_bestBy U_t_spotsMany U_t_spotAt U_t_followed U_t_followOf U_t_toldMany U_t_toldOf U_t_stepsTo U_t_reachOne U_t_isMarked U_t_markOf w0 w1 t_value t_place t_sort t_words w2) pl pc lo []) (hw : wp_X12_readWalker t_value t_place t_sort t_words t_at t_fault t_towns post) : AW X 4 0 0 (w_X12_readWalker (cxG X) A_t A_t_value A_t_place A_t_sort A_t_words A_t_towns U_t_thrown U_t_tape U_t_taped U_t_size U_t_op U_t_arg U_t_codes U_t_facts U_t_pile U_t_shadeDay U_t_sun U_t_isShut U_t_sunny U_t_cost U_t_leastCost U_t_leastEnd U_t_wayOf U_t_wayMany U_t_whereAt U_t_reach U_t_likely U_t_crowdAt U_t_crowdBy U_t_crowdRounds U_t_bestSquare U_t_bestBy U_t_spotsMany U_t_spotAt U_t_followed U_t_followOf U_t_toldMany U_t_toldOf U_t_stepsTo U_t_reachOne U_t_isMarked U_t_markOf t_at t_fault t_value t_place t_sort t_words t_towns) pl 0 [some (.ref A_t), none, none, none] [] := by
  refine a_aload_n (pc := 0) (i := 0) C dX12_readWalker_0 rfl rfl ?_
  refine a_dup (pc := 1) C dX12_readWalker_1 rfl ?_
  refine a_get (pc := 2) C fl_X12_196 dX12_readWalker_2 0 rfl rfl ?_
  refine a_iconst (pc := 5) C dX12_readWalker_5 kc_1 ?_
  refine a_iadd (pc := 6) C dX12_readWalker_6 ?_
  refine a_topi (fun x7 e_x7 => ?_)
  replace hw := hw x7 e_x7
  refine a_putW (pc := 7) (ws' := (w_X12_readWalker (cxG X) A_t A_t_value A_t_place A_t_sort A_t_words A_t_towns U_t_thrown U_t_tape U_t_taped U_t_size U_t_op U_t_arg U_t_codes U_t_facts U_t_pile U_t_shadeDay U_t_sun U_t_isShut U_t_sunny U_t_cost U_t_leastCost U_t_leastEnd U_t_wayOf U_t_wayMany U_t_whereAt U_t_reach U_t_likely U_t_crowdAt U_t_crowdBy U_t_crowdRounds U_t_bestSquare U_t_bestBy U_t_spotsMany U_t_spotAt U_t_followed U_t_followOf U_t_toldMany U_t_toldOf U_t_stepsTo U_t_reachOne U_t_isMarked U_t_markOf x7 t_fault t_value t_place t_sort t_words t_towns)) C fl_X12_196 pu_12_7 dX12_readWalker_7 0 rfl rfl rfl (Nat.le_of_ble_eq_true rfl) rfl ?_
  refine a_aload_n (pc := 10) (i := 0) C dX12_readWalker_10 rfl rfl ?_
  refine a_get (pc := 11) C fl_X12_199 dX12_readWalker_11 0 rfl rfl ?_
  refine a_if_ne (pc := 14) (tgt := 76) C dX12_readWalker_14 (by decide) (fun c_14 => ?_) (fun c_14 => ?_)
  · replace hw := hw.1 c_14
    exact m_X12_readWalker_b76 C hret hw
  · replace hw := hw.2 c_14
    refine a_aload_n (pc := 17) (i := 0) C dX12_readWalker_17 rfl rfl ?_
    refine a_get (pc := 18) C fl_X12_24 dX12_readWalker_18 0 rfl rfl ?_
    refine a_aload_n (pc := 21) (i := 0) C dX12_readWalker_21 rfl rfl ?_
    refine a_get (pc := 22) C fl_X12_196 dX12_readWalker_22 0 rfl rfl ?_
    obtain ⟨i_25, hw⟩ := hw
    refine a_iald (pc := 25) C dX12_readWalker_25 3 rfl i_25 ?_
    refine a_iconst (pc := 26) C dX12_readWalker_26 kc_2 ?_
    refine a_icmp_ne (pc := 27) (tgt := 76) C dX12_readWalker_27 (by decide) (fun c_27 => ?_) (fun c_27 => ?_)
    · replace hw := hw.1 c_27
      exact m_X12_readWalker_b76 C hret hw
    · replace hw := hw.2 c_27
      refine a_aload_n (pc := 30) (i := 0) C dX12_readWalker_30 rfl rfl ?_
      refine a_get (pc := 31) C fl_X12_30 dX12_readWalker_31 0 rfl rfl ?_
      refine a_aload_n (pc := 34) (i := 0) C dX12_readWalker_34 rfl rfl ?_
      refine a_get (pc := 35) C fl_X12_196 dX12_readWalker_35 0 rfl rfl ?_
      obtain ⟨i_38, hw⟩ := hw
      refine a_lald (pc := 38) C dX12_readWalker_38 1 rfl i_38 ?_
      refine a_ldc2 (pc := 39) C dX12_readWalker_39 tk_X12_268 ?_
      refine a_lcmp (pc := 42) C dX12_readWalker_42 ?_
      refine a_if_ge (pc := 43) (tgt := 76) C dX12_readWalker_43 (by decide) (fun c_43 => ?_) (fun c_43 => ?_)
      · replace hw := hw.1 c_43
        exact m_X12_readWalker_b76 C hret hw
      · replace hw := hw.2 c_43
        refine a_aload_n (pc := 46) (i := 0) C dX12_readWalker_46 rfl rfl ?_
        refine a_get (pc := 47) C fl_X12_97 dX12_readWalker_47 0 rfl rfl ?_
        refine a_sipush (pc := 50) C dX12_readWalker_50 ks_822 ?_
        refine a_bipush (pc := 53) C dX12_readWalker_53 kb_7 ?_
        refine a_aload_n (pc := 55) (i := 0) C dX12_readWalker_55 rfl rfl ?_
        refine a_get (pc := 56) C fl_X12_30 dX12_readWalker_56 0 rfl rfl ?_
        refine a_aload_n (pc := 59) (i := 0) C dX12_readWalker_59 rfl rfl ?_
        refine a_get (pc := 60) C fl_X12_196 dX12_readWalker_60 0 rfl rfl ?_
        obtain ⟨i_63, hw⟩ := hw
        refine a_lald (pc := 63) C dX12_readWalker_63 1 rfl i_63 ?_
        refine a_l2i (pc := 64) C dX12_readWalker_64 ?_
        refine a_imul (pc := 65) C dX12_readWalker_65 ?_
        refine a_iadd (pc := 66) C dX12_readWalker_66 ?_
        refine a_topi (fun x67 e_x67 => ?_)
        replace hw := hw x67 e_x67
        obtain ⟨i_67, hw⟩ := hw
        refine a_iald (pc := 67) C dX12_readWalker_67 5 rfl i_67 ?_
        refine a_if_le (pc := 68) (tgt := 76) C dX12_readWalker_68 (by decide) (fun c_68 => ?_) (fun c_68 => ?_)
        · replace hw := hw.1 c_68
          exact m_X12_readWalker_b76 C hret hw
        · replace hw := hw.2 c_68
          refine a_aload_n (pc := 71) (i := 0) C dX12_readWalker_71 rfl rfl ?_
          refine a_iconst (pc := 72) C dX12_readWalker_72 kc_3 ?_
          refine a_callVv (pc := 73) (As := [.int 3]) (st := []) (ws' := (fun u => (w_X12_readWalker (cxG X) A_t A_t_value A_t_place A_t_sort A_t_words A_t_towns U_t_thrown U_t_tape U_t_taped U_t_size U_t_op U_t_arg U_t_codes U_t_facts U_t_pile U_t_shadeDay U_t_sun U_t_isShut U_t_sunny U_t_cost U_t_leastCost U_t_leastEnd U_t_wayOf U_t_wayMany U_t_whereAt U_t_reach U_t_likely U_t_crowdAt U_t_crowdBy U_t_crowdRounds U_t_bestSquare U_t_bestBy U_t_spotsMany U_t_spotAt U_t_followed U_t_followOf U_t_toldMany U_t_toldOf U_t_stepsTo U_t_reachOne U_t_isMarked U_t_markOf x7 u t_value t_place t_sort t_words t_towns))) C (c_X12_wrong A_t A_t_place U_t_thrown U_t_tape U_t_taped U_t_size (.ref A_t_sort) (.ref A_t_value) (.ref A_t_words) (.ref A_t_towns) U_t_op U_t_arg U_t_codes U_t_facts U_t_pile U_t_shadeDay U_t_sun U_t_isShut U_t_sunny U_t_cost U_t_leastCost U_t_leastEnd U_t_wayOf U_t_wayMany U_t_whereAt U_t_reach U_t_likely U_t_crowdAt U_t_crowdBy U_t_crowdRounds U_t_bestSquare U_t_bestBy U_t_spotsMany U_t_spotAt U_t_followed U_t_followOf U_t_toldMany U_t_toldOf U_t_stepsTo U_t_reachOne U_t_isMarked U_t_markOf hw) dX12_readWalker_73 mth_X12_wrong tml_X12_205 (fun _ _ h => trivial) Fz0_ok (rml (by decide) (by decide)) (Nat.le_of_ble_eq_true rfl) rfl rfl [0, 2] [1, 3, 4, 5] [4, 0, 5, 1, 2, 3] rfl rfl rfl rfl rfl rfl (ci := 12) rfl ⟨0, _, rfl⟩ (fun _ => rfl) rfl (fun _ => rfl) (fun u hw => ?_)
          obtain ⟨t_fault_73, rfl⟩ : ∃ z, z = u := ⟨_, rfl⟩
          show AW X 4 0 0 (w_X12_readWalker (cxG X) A_t A_t_value A_t_place A_t_sort A_t_words A_t_towns U_t_thrown U_t_tape U_t_taped U_t_size U_t_op U_t_arg U_t_codes U_t_facts U_t_pile U_t_shadeDay U_t_sun U_t_isShut U_t_sunny U_t_cost U_t_leastCost U_t_leastEnd U_t_wayOf U_t_wayMany U_t_whereAt U_t_reach U_t_likely U_t_crowdAt U_t_crowdBy U_t_crowdRounds U_t_bestSquare U_t_bestBy U_t_spotsMany U_t_spotAt U_t_followed U_t_followOf U_t_toldMany U_t_toldOf U_t_stepsTo U_t_reachOne U_t_isMarked U_t_markOf x7 t_fault_73 t_value t_place t_sort t_words t_towns) pl 76 [some (.ref A_t), none, none, none] []
          exact m_X12_readWalker_b76 C hret hw
theorem c_X12_readWalker {l : Launch} {g : GG} {pl : Pool} (A_t A_t_value A_t_place A_t_sort A_t_words A_t_towns : Nat) (U_t_thrown U_t_tape U_t_taped U_t_size U_t_op U_t_arg U_t_codes U_t_facts U_t_pile U_t_shadeDay U_t_sun U_t_isShut U_t_sunny U_t_cost U_t_leastCost U_t_leastEnd U_t_wayOf U_t_wayMany U_t_whereAt U_t_reach U_t_likely U_t_crowdAt U_t_crowdBy U_t_crowdRounds U_t_bestSquare U_t_bestBy U_t_spotsMany U_t_spotAt U_t_followed U_t_followOf U_t_toldMany U_t_toldOf U_t_stepsTo U_t_reachOne U_t_isMarked U_t_markOf : Value) {t_value : Nat → Int64} {t_place : Nat → Int32} {t_sort : Nat → Int32} {t_words : Nat → Int64} {t_at : Int32} {t_fault : Int32} {t_towns : Nat → Int32} {post : Int32 → Int32 → (Nat → Int32) → Prop} (hw : wp_X12_readWalker t_value t_place t_sort t_words t_at t_fault t_towns post) : MV l yX12_readWalker cX12_readWalker 4 (none : Option Jvm.ClassFile.FieldType) (rmL 3) g Fz0 [.ref A_t] (w_X12_readWalker g A_t A_t_value A_t_place A_t_sort A_t_words A_t_towns U_t_thrown U_t_tape U_t_taped U_t_size U_t_op U_t_arg U_t_codes U_t_facts U_t_pile U_t_shadeDay U_t_sun U_t_isShut U_t_sunny U_t_cost U_t_leastCost U_t_leastEnd U_t_wayOf U_t_wayMany U_t_whereAt U_t_reach U_t_likely U_t_crowdAt U_t_crowdBy U_t_crowdRounds U_t_bestSquare U_t_bestBy U_t_spotsMany U_t_spotAt U_t_followed U_t_followOf U_t_toldMany U_t_toldOf U_t_stepsTo U_t_reachOne U_t_isMarked U_t_markOf t_at t_fault t_value t_place t_sort t_words t_towns) pl (fun (u : Int32 × Int32 × (Nat → Int32)) => post u.1 u.2.1 u.2.2) (fun u => (w_X12_readWalker g A_t A_t_value A_t_place A_t_sort A_t_words A_t_towns U_t_thrown U_t_tape U_t_taped U_t_size U_t_op U_t_arg U_t_codes U_t_facts U_t_pile U_t_shadeDay U_t_sun U_t_isShut U_t_sunny U_t_cost U_t_leastCost U_t_leastEnd U_t_wayOf U_t_wayMany U_t_whereAt U_t_reach U_t_likely U_t_crowdAt U_t_crowdBy U_t_crowdRounds U_t_bestSquare U_t_bestBy U_t_spotsMany U_t_spotAt U_t_followed U_t_followOf U_t_toldMany U_t_toldOf U_t_stepsTo U_t_reachOne U_t_isMarked U_t_markOf u.1 u.2.1 t_value t_place t_sort t_words u.2.2)) (fun _ => pl) 0 0 := by
  refine met_v (own := RX12) rfl rfl (Nat.le_of_ble_eq_true rfl) (fun X hg hl C hini hret => ?_)
  subst hg
  subst hl
  exact m_X12_readWalker C (fun w0 w1 w2 pc lo hp hd => hret (w0, w1, w2) pc lo hp hd) hw
abbrev w_X12_readWater (g : GG) (A_t A_t_towns A_t_value A_t_place A_t_sort : Nat) (U_t_thrown U_t_tape U_t_taped U_t_size U_t_words U_t_op U_t_arg U_t_codes U_t_facts U_t_pile U_t_shadeDay U_t_sun U_t_isShut U_t_sunny U_t_cost U_t_leastCost U_t_leastEnd U_t_wayOf U_t_wayMany U_t_whereAt U_t_reach U_t_likely U_t_crowdAt U_t_crowdBy U_t_crowdRounds U_t_bestSquare U_t_bestBy U_t_spotsMany U_t_spotAt U_t_followed U_t_followOf U_t_toldMany U_t_toldOf U_t_stepsTo U_t_reachOne U_t_isMarked U_t_markOf : Value) (t_at : Int32) (t_fault : Int32) (t_towns : Nat → Int32) (t_value : Nat → Int64) (t_place : Nat → Int32) (t_sort : Nat → Int32) : va_W := [(A_t, ob 12 [U_t_thrown, U_t_tape, U_t_taped, U_t_size, .ref A_t_sort, .ref A_t_place, .ref A_t_value, .int t_at, .int t_fault, U_t_words, .ref A_t_towns, U_t_op, U_t_arg, U_t_codes, U_t_facts, U_t_pile, U_t_shadeDay, U_t_sun, U_t_isShut, U_t_sunny, U_t_cost, U_t_leastCost, U_t_leastEnd, U_t_wayOf, U_t_wayMany, U_t_whereAt, U_t_reach, U_t_likely, U_t_crowdAt, U_t_crowdBy, U_t_crowdRounds, U_t_bestSquare, U_t_bestBy, U_t_spotsMany, U_t_spotAt, U_t_followed, U_t_followOf, U_t_toldMany, U_t_toldOf, U_t_stepsTo, U_t_reachOne, U_t_isMarked, U_t_markOf]), (A_t_towns, aI g 2640 t_towns), (A_t_value, aJ g 1002 t_value), (A_t_place, aI g 1002 t_place), (A_t_sort, aI g 1002 t_sort)]
set_option maxRecDepth 20000 in
theorem m_X12_readWater {X : Ctx} (C : Cok X cX12_readWater 4 RX12 (rmL 2) Fz0) {pl : Pool} {A_t A_t_towns A_t_value A_t_place A_t_sort : Nat} {U_t_thrown U_t_tape U_t_taped U_t_size U_t_words U_t_op U_t_arg U_t_codes U_t_facts U_t_pile U_t_shadeDay U_t_sun U_t_isShut U_t_sunny U_t_cost U_t_leastCost U_t_leastEnd U_t_wayOf U_t_wayMany U_t_whereAt U_t_reach U_t_likely U_t_crowdAt U_t_crowdBy U_t_crowdRounds U_t_bestSquare U_t_bestBy U_t_spotsMany U_t_spotAt U_t_followed U_t_followOf U_t_toldMany U_t_toldOf U_t_stepsTo U_t_reachOne U_t_isMarked U_t_markOf : Value} {t_value : Nat → Int64} {t_place : Nat → Int32} {t_sort : Nat → Int32} {t_at : Int32} {t_fault : Int32} {t_towns : Nat → Int32} {post : Int32 → Int32 → (Nat → Int32) → Prop} (hret : ∀ (w0 : Int32) (w1 : Int32) (w2 : Nat → Int32) (pc : Nat) (lo : List (Option Value)), post w0 w1 w2 → decode cX12_readWater pc = .ok (.return_, 1) → AW X 4 0 0 (w_X12_readWater (cxG X) A_t A_t_towns A_t_value A_t_place A_t_sort U_t_thrown U_t_tape U_t_taped U_t_size U_t_words U_t_op U_t_arg U_t_codes U_t_facts U_t_pile U_t_shadeDay U_t_sun U_t_isShut U_t_sunny U_t_cost U_t_leastCost U_t_leastEnd U_t_wayOf U_t_wayMany U_t_whereAt U_t_reach U_t_likely U_t_crowdAt U_t_crowdBy U_t_crowdRounds U_t_bestSquare U_t_bestBy U_t_spotsMany U_t_spotAt U_t_followed U_t_followOf U_t_toldMany U_t_toldOf U_t_stepsTo U_t_reachOne U_t_isMarked U_t_markOf w0 w1 w2 t_value t_place t_sort) pl pc lo []) (hw : wp_X12_readWater t_value t_place t_sort t_at t_fault t_towns post) : AW X 4 0 0 (w_X12_readWater (cxG X) A_t A_t_towns A_t_value A_t_place A_t_sort U_t_thrown U_t_tape U_t_taped U_t_size U_t_words U_t_op U_t_arg U_t_codes U_t_facts U_t_pile U_t_shadeDay U_t_sun U_t_isShut U_t_sunny U_t_cost U_t_leastCost U_t_leastEnd U_t_wayOf U_t_wayMany U_t_whereAt U_t_reach U_t_likely U_t_crowdAt U_t_crowdBy U_t_crowdRounds U_t_bestSquare U_t_bestBy U_t_spotsMany U_t_spotAt U_t_followed U_t_followOf U_t_toldMany U_t_toldOf U_t_stepsTo U_t_reachOne U_t_isMarked U_t_markOf t_at t_fault t_towns t_value t_place t_sort) pl 0 [some (.ref A_t), none, none, none] [] := by
  refine a_aload_n (pc := 0) (i := 0) C dX12_readWater_0 rfl rfl ?_
  refine a_get (pc := 1) C fl_X12_97 dX12_readWater_1 0 rfl rfl ?_
  refine a_sipush (pc := 4) C dX12_readWater_4 ks_864 ?_
  obtain ⟨i_7, hw⟩ := hw
  refine a_iald (pc := 7) C dX12_readWater_7 1 rfl i_7 ?_
  refine a_topi (fun x8 e_x8 => ?_)
  replace hw := hw x8 e_x8
  refine s_istore_n (pc := 8) (i := 1) (lo' := [some (.ref A_t), some (.int x8), none, none]) C dX12_readWater_8 rfl (by decide) rfl rfl ?_
  refine a_iload_n (pc := 9) (i := 1) C dX12_readWater_9 rfl rfl ?_
  refine a_bipush (pc := 10) C dX12_readWater_10 kb_10 ?_
  refine a_icmp_ne (pc := 12) (tgt := 21) C dX12_readWater_12 (by decide) (fun c_12 => ?_) (fun c_12 => ?_)
  · replace hw := hw.1 c_12
    refine a_aload_n (pc := 21) (i := 0) C dX12_readWater_21 rfl rfl ?_
    refine a_dup (pc := 22) C dX12_readWater_22 rfl ?_
    refine a_get (pc := 23) C fl_X12_196 dX12_readWater_23 0 rfl rfl ?_
    refine a_iconst (pc := 26) C dX12_readWater_26 kc_1 ?_
    refine a_iadd (pc := 27) C dX12_readWater_27 ?_
    refine a_topi (fun x28 e_x28 => ?_)
    replace hw := hw x28 e_x28
    refine a_putW (pc := 28) (ws' := (w_X12_readWater (cxG X) A_t A_t_towns A_t_value A_t_place A_t_sort U_t_thrown U_t_tape U_t_taped U_t_size U_t_words U_t_op U_t_arg U_t_codes U_t_facts U_t_pile U_t_shadeDay U_t_sun U_t_isShut U_t_sunny U_t_cost U_t_leastCost U_t_leastEnd U_t_wayOf U_t_wayMany U_t_whereAt U_t_reach U_t_likely U_t_crowdAt U_t_crowdBy U_t_crowdRounds U_t_bestSquare U_t_bestBy U_t_spotsMany U_t_spotAt U_t_followed U_t_followOf U_t_toldMany U_t_toldOf U_t_stepsTo U_t_reachOne U_t_isMarked U_t_markOf x28 t_fault t_towns t_value t_place t_sort)) C fl_X12_196 pu_12_7 dX12_readWater_28 0 rfl rfl rfl (Nat.le_of_ble_eq_true rfl) rfl ?_
    refine a_aload_n (pc := 31) (i := 0) C dX12_readWater_31 rfl rfl ?_
    refine a_iconst (pc := 32) C dX12_readWater_32 kc_0 ?_
    refine a_bipush (pc := 33) C dX12_readWater_33 kb_9 ?_
    refine a_callVi (pc := 35) (As := [.int 0, .int 9]) (st := []) (ws' := (fun u => (w_X12_readWater (cxG X) A_t A_t_towns A_t_value A_t_place A_t_sort U_t_thrown U_t_tape U_t_taped U_t_size U_t_words U_t_op U_t_arg U_t_codes U_t_facts U_t_pile U_t_shadeDay U_t_sun U_t_isShut U_t_sunny U_t_cost U_t_leastCost U_t_leastEnd U_t_wayOf U_t_wayMany U_t_whereAt U_t_reach U_t_likely U_t_crowdAt U_t_crowdBy U_t_crowdRounds U_t_bestSquare U_t_bestBy U_t_spotsMany U_t_spotAt U_t_followed U_t_followOf U_t_toldMany U_t_toldOf U_t_stepsTo U_t_reachOne U_t_isMarked U_t_markOf u.1 u.2 t_towns t_value t_place t_sort))) C (c_X12_takeNumber A_t A_t_value A_t_place A_t_sort U_t_thrown U_t_tape U_t_taped U_t_size U_t_words (.ref A_t_towns) U_t_op U_t_arg U_t_codes U_t_facts U_t_pile U_t_shadeDay U_t_sun U_t_isShut U_t_sunny U_t_cost U_t_leastCost U_t_leastEnd U_t_wayOf U_t_wayMany U_t_whereAt U_t_reach U_t_likely U_t_crowdAt U_t_crowdBy U_t_crowdRounds U_t_bestSquare U_t_bestBy U_t_spotsMany U_t_spotAt U_t_followed U_t_followOf U_t_toldMany U_t_toldOf U_t_stepsTo U_t_reachOne U_t_isMarked U_t_markOf hw) dX12_readWater_35 mth_X12_takeNumber tml_X12_255 (fun _ _ h => trivial) Fz0_ok (rml (by decide) (by decide)) (Nat.le_of_ble_eq_true rfl) rfl rfl [0, 2, 3, 4] [1] [1, 0, 2, 3, 4] rfl rfl rfl rfl rfl rfl (ci := 12) rfl ⟨0, _, rfl⟩ (fun _ => rfl) rfl (fun _ => rfl) (fun r35 u hw => ?_)
    obtain ⟨t_at_35, t_fault_35⟩ := u
    dsimp only at hw
    show AW X 4 0 0 (w_X12_readWater (cxG X) A_t A_t_towns A_t_value A_t_place A_t_sort U_t_thrown U_t_tape U_t_taped U_t_size U_t_words U_t_op U_t_arg U_t_codes U_t_facts U_t_pile U_t_shadeDay U_t_sun U_t_isShut U_t_sunny U_t_cost U_t_leastCost U_t_leastEnd U_t_wayOf U_t_wayMany U_t_whereAt U_t_reach U_t_likely U_t_crowdAt U_t_crowdBy U_t_crowdRounds U_t_bestSquare U_t_bestBy U_t_spotsMany U_t_spotAt U_t_followed U_t_followOf U_t_toldMany U_t_toldOf U_t_stepsTo U_t_reachOne U_t_isMarked U_t_markOf t_at_35 t_fault_35 t_towns t_value t_place t_sort) pl 38 [some (.ref A_t), some (.int x8), none, none] [.int r35]
    refine s_istore_n (pc := 38) (i := 2) (lo' := [some (.ref A_t), some (.int x8), some (.int r35), none]) C dX12_readWater_38 rfl (by decide) rfl rfl ?_
    refine a_aload_n (pc := 39) (i := 0) C dX12_readWater_39 rfl rfl ?_
    refine a_iconst (pc := 40) C dX12_readWater_40 kc_0 ?_
    refine a_bipush (pc := 41) C dX12_readWater_41 kb_9 ?_
    refine a_callVi (pc := 43) (As := [.int 0, .int 9]) (st := []) (ws' := (fun u => (w_X12_readWater (cxG X) A_t A_t_towns A_t_value A_t_place A_t_sort U_t_thrown U_t_tape U_t_taped U_t_size U_t_words U_t_op U_t_arg U_t_codes U_t_facts U_t_pile U_t_shadeDay U_t_sun U_t_isShut U_t_sunny U_t_cost U_t_leastCost U_t_leastEnd U_t_wayOf U_t_wayMany U_t_whereAt U_t_reach U_t_likely U_t_crowdAt U_t_crowdBy U_t_crowdRounds U_t_bestSquare U_t_bestBy U_t_spotsMany U_t_spotAt U_t_followed U_t_followOf U_t_toldMany U_t_toldOf U_t_stepsTo U_t_reachOne U_t_isMarked U_t_markOf u.1 u.2 t_towns t_value t_place t_sort))) C (c_X12_takeNumber A_t A_t_value A_t_place A_t_sort U_t_thrown U_t_tape U_t_taped U_t_size U_t_words (.ref A_t_towns) U_t_op U_t_arg U_t_codes U_t_facts U_t_pile U_t_shadeDay U_t_sun U_t_isShut U_t_sunny U_t_cost U_t_leastCost U_t_leastEnd U_t_wayOf U_t_wayMany U_t_whereAt U_t_reach U_t_likely U_t_crowdAt U_t_crowdBy U_t_crowdRounds U_t_bestSquare U_t_bestBy U_t_spotsMany U_t_spotAt U_t_followed U_t_followOf U_t_toldMany U_t_toldOf U_t_stepsTo U_t_reachOne U_t_isMarked U_t_markOf hw) dX12_readWater_43 mth_X12_takeNumber tml_X12_255 (fun _ _ h => trivial) Fz0_ok (rml (by decide) (by decide)) (Nat.le_of_ble_eq_true rfl) rfl rfl [0, 2, 3, 4] [1] [1, 0, 2, 3, 4] rfl rfl rfl rfl rfl rfl (ci := 12) rfl ⟨0, _, rfl⟩ (fun _ => rfl) rfl (fun _ => rfl) (fun r43 u hw => ?_)
    obtain ⟨t_at_43, t_fault_43⟩ := u
    dsimp only at hw
    show AW X 4 0 0 (w_X12_readWater (cxG X) A_t A_t_towns A_t_value A_t_place A_t_sort U_t_thrown U_t_tape U_t_taped U_t_size U_t_words U_t_op U_t_arg U_t_codes U_t_facts U_t_pile U_t_shadeDay U_t_sun U_t_isShut U_t_sunny U_t_cost U_t_leastCost U_t_leastEnd U_t_wayOf U_t_wayMany U_t_whereAt U_t_reach U_t_likely U_t_crowdAt U_t_crowdBy U_t_crowdRounds U_t_bestSquare U_t_bestBy U_t_spotsMany U_t_spotAt U_t_followed U_t_followOf U_t_toldMany U_t_toldOf U_t_stepsTo U_t_reachOne U_t_isMarked U_t_markOf t_at_43 t_fault_43 t_towns t_value t_place t_sort) pl 46 [some (.ref A_t), some (.int x8), some (.int r35), none] [.int r43]
    refine s_istore_n (pc := 46) (i := 3) (lo' := [some (.ref A_t), some (.int x8), some (.int r35), some (.int r43)]) C dX12_readWater_46 rfl (by decide) rfl rfl ?_
    refine a_aload_n (pc := 47) (i := 0) C dX12_readWater_47 rfl rfl ?_
    refine a_get (pc := 48) C fl_X12_97 dX12_readWater_48 0 rfl rfl ?_
    refine a_sipush (pc := 51) C dX12_readWater_51 ks_865 ?_
    refine a_iload_n (pc := 54) (i := 1) C dX12_readWater_54 rfl rfl ?_
    refine a_iadd (pc := 55) C dX12_readWater_55 ?_
    refine a_bipush (pc := 56) C dX12_readWater_56 kb_10 ?_
    refine a_iload_n (pc := 58) (i := 3) C dX12_readWater_58 rfl rfl ?_
    refine a_imul (pc := 59) C dX12_readWater_59 ?_
    refine a_iload_n (pc := 60) (i := 2) C dX12_readWater_60 rfl rfl ?_
    refine a_iadd (pc := 61) C dX12_readWater_61 ?_
    refine a_topi (fun x62 e_x62 => ?_)
    replace hw := hw x62 e_x62
    refine a_top2i (fun x62_1 e_x62_1 => ?_)
    replace hw := hw x62_1 e_x62_1
    obtain ⟨i_62, hw⟩ := hw
    refine a_iastW (pc := 62) C (fun h => (w_X12_readWater (cxG X) A_t A_t_towns A_t_value A_t_place A_t_sort U_t_thrown U_t_tape U_t_taped U_t_size U_t_words U_t_op U_t_arg U_t_codes U_t_facts U_t_pile U_t_shadeDay U_t_sun U_t_isShut U_t_sunny U_t_cost U_t_leastCost U_t_leastEnd U_t_wayOf U_t_wayMany U_t_whereAt U_t_reach U_t_likely U_t_crowdAt U_t_crowdBy U_t_crowdRounds U_t_bestSquare U_t_bestBy U_t_spotsMany U_t_spotAt U_t_followed U_t_followOf U_t_toldMany U_t_toldOf U_t_stepsTo U_t_reachOne U_t_isMarked U_t_markOf t_at_43 t_fault_43 h t_value t_place t_sort)) dX12_readWater_62 1 rfl i_62 (fun _ => rfl) (fun t_towns_62 e_t_towns_62 => ?_)
    replace hw := hw t_towns_62 e_t_towns_62
    refine a_aload_n (pc := 63) (i := 0) C dX12_readWater_63 rfl rfl ?_
    refine a_get (pc := 64) C fl_X12_97 dX12_readWater_64 0 rfl rfl ?_
    refine a_sipush (pc := 67) C dX12_readWater_67 ks_864 ?_
    refine a_dup2_11 (pc := 70) C dX12_readWater_70 rfl rfl ?_
    obtain ⟨i_71, hw⟩ := hw
    refine a_iald (pc := 71) C dX12_readWater_71 1 rfl i_71 ?_
    refine a_iconst (pc := 72) C dX12_readWater_72 kc_1 ?_
    refine a_iadd (pc := 73) C dX12_readWater_73 ?_
    refine a_topi (fun x74 e_x74 => ?_)
    replace hw := hw x74 e_x74
    obtain ⟨i_74, hw⟩ := hw
    refine a_iastW (pc := 74) C (fun h => (w_X12_readWater (cxG X) A_t A_t_towns A_t_value A_t_place A_t_sort U_t_thrown U_t_tape U_t_taped U_t_size U_t_words U_t_op U_t_arg U_t_codes U_t_facts U_t_pile U_t_shadeDay U_t_sun U_t_isShut U_t_sunny U_t_cost U_t_leastCost U_t_leastEnd U_t_wayOf U_t_wayMany U_t_whereAt U_t_reach U_t_likely U_t_crowdAt U_t_crowdBy U_t_crowdRounds U_t_bestSquare U_t_bestBy U_t_spotsMany U_t_spotAt U_t_followed U_t_followOf U_t_toldMany U_t_toldOf U_t_stepsTo U_t_reachOne U_t_isMarked U_t_markOf t_at_43 t_fault_43 h t_value t_place t_sort)) dX12_readWater_74 1 rfl i_74 (fun _ => rfl) (fun t_towns_74 e_t_towns_74 => ?_)
    replace hw := hw t_towns_74 e_t_towns_74
    exact hret _ _ _ _ _ hw dX12_readWater_75
  · replace hw := hw.2 c_12
    refine a_aload_n (pc := 15) (i := 0) C dX12_readWater_15 rfl rfl ?_
    refine a_iconst (pc := 16) C dX12_readWater_16 kc_5 ?_
    refine a_callVv (pc := 17) (As := [.int 5]) (st := []) (ws' := (fun u => (w_X12_readWater (cxG X) A_t A_t_towns A_t_value A_t_place A_t_sort U_t_thrown U_t_tape U_t_taped U_t_size U_t_words U_t_op U_t_arg U_t_codes U_t_facts U_t_pile U_t_shadeDay U_t_sun U_t_isShut U_t_sunny U_t_cost U_t_leastCost U_t_leastEnd U_t_wayOf U_t_wayMany U_t_whereAt U_t_reach U_t_likely U_t_crowdAt U_t_crowdBy U_t_crowdRounds U_t_bestSquare U_t_bestBy U_t_spotsMany U_t_spotAt U_t_followed U_t_followOf U_t_toldMany U_t_toldOf U_t_stepsTo U_t_reachOne U_t_isMarked U_t_markOf t_at u t_towns t_value t_place t_sort))) C (c_X12_wrong A_t A_t_place U_t_thrown U_t_tape U_t_taped U_t_size (.ref A_t_sort) (.ref A_t_value) U_t_words (.ref A_t_towns) U_t_op U_t_arg U_t_codes U_t_facts U_t_pile U_t_shadeDay U_t_sun U_t_isShut U_t_sunny U_t_cost U_t_leastCost U_t_leastEnd U_t_wayOf U_t_wayMany U_t_whereAt U_t_reach U_t_likely U_t_crowdAt U_t_crowdBy U_t_crowdRounds U_t_bestSquare U_t_bestBy U_t_spotsMany U_t_spotAt U_t_followed U_t_followOf U_t_toldMany U_t_toldOf U_t_stepsTo U_t_reachOne U_t_isMarked U_t_markOf hw) dX12_readWater_17 mth_X12_wrong tml_X12_205 (fun _ _ h => trivial) Fz0_ok (rml (by decide) (by decide)) (Nat.le_of_ble_eq_true rfl) rfl rfl [0, 3] [1, 2, 4] [3, 0, 1, 4, 2] rfl rfl rfl rfl rfl rfl (ci := 12) rfl ⟨0, _, rfl⟩ (fun _ => rfl) rfl (fun _ => rfl) (fun u hw => ?_)
    obtain ⟨t_fault_17, rfl⟩ : ∃ z, z = u := ⟨_, rfl⟩
    show AW X 4 0 0 (w_X12_readWater (cxG X) A_t A_t_towns A_t_value A_t_place A_t_sort U_t_thrown U_t_tape U_t_taped U_t_size U_t_words U_t_op U_t_arg U_t_codes U_t_facts U_t_pile U_t_shadeDay U_t_sun U_t_isShut U_t_sunny U_t_cost U_t_leastCost U_t_leastEnd U_t_wayOf U_t_wayMany U_t_whereAt U_t_reach U_t_likely U_t_crowdAt U_t_crowdBy U_t_crowdRounds U_t_bestSquare U_t_bestBy U_t_spotsMany U_t_spotAt U_t_followed U_t_followOf U_t_toldMany U_t_toldOf U_t_stepsTo U_t_reachOne U_t_isMarked U_t_markOf t_at t_fault_17 t_towns t_value t_place t_sort) pl 20 [some (.ref A_t), some (.int x8), none, none] []
    exact hret _ _ _ _ _ hw dX12_readWater_20
theorem c_X12_readWater {l : Launch} {g : GG} {pl : Pool} (A_t A_t_towns A_t_value A_t_place A_t_sort : Nat) (U_t_thrown U_t_tape U_t_taped U_t_size U_t_words U_t_op U_t_arg U_t_codes U_t_facts U_t_pile U_t_shadeDay U_t_sun U_t_isShut U_t_sunny U_t_cost U_t_leastCost U_t_leastEnd U_t_wayOf U_t_wayMany U_t_whereAt U_t_reach U_t_likely U_t_crowdAt U_t_crowdBy U_t_crowdRounds U_t_bestSquare U_t_bestBy U_t_spotsMany U_t_spotAt U_t_followed U_t_followOf U_t_toldMany U_t_toldOf U_t_stepsTo U_t_reachOne U_t_isMarked U_t_markOf : Value) {t_value : Nat → Int64} {t_place : Nat → Int32} {t_sort : Nat → Int32} {t_at : Int32} {t_fault : Int32} {t_towns : Nat → Int32} {post : Int32 → Int32 → (Nat → Int32) → Prop} (hw : wp_X12_readWater t_value t_place t_sort t_at t_fault t_towns post) : MV l yX12_readWater cX12_readWater 4 (none : Option Jvm.ClassFile.FieldType) (rmL 2) g Fz0 [.ref A_t] (w_X12_readWater g A_t A_t_towns A_t_value A_t_place A_t_sort U_t_thrown U_t_tape U_t_taped U_t_size U_t_words U_t_op U_t_arg U_t_codes U_t_facts U_t_pile U_t_shadeDay U_t_sun U_t_isShut U_t_sunny U_t_cost U_t_leastCost U_t_leastEnd U_t_wayOf U_t_wayMany U_t_whereAt U_t_reach U_t_likely U_t_crowdAt U_t_crowdBy U_t_crowdRounds U_t_bestSquare U_t_bestBy U_t_spotsMany U_t_spotAt U_t_followed U_t_followOf U_t_toldMany U_t_toldOf U_t_stepsTo U_t_reachOne U_t_isMarked U_t_markOf t_at t_fault t_towns t_value t_place t_sort) pl (fun (u : Int32 × Int32 × (Nat → Int32)) => post u.1 u.2.1 u.2.2) (fun u => (w_X12_readWater g A_t A_t_towns A_t_value A_t_place A_t_sort U_t_thrown U_t_tape U_t_taped U_t_size U_t_words U_t_op U_t_arg U_t_codes U_t_facts U_t_pile U_t_shadeDay U_t_sun U_t_isShut U_t_sunny U_t_cost U_t_leastCost U_t_leastEnd U_t_wayOf U_t_wayMany U_t_whereAt U_t_reach U_t_likely U_t_crowdAt U_t_crowdBy U_t_crowdRounds U_t_bestSquare U_t_bestBy U_t_spotsMany U_t_spotAt U_t_followed U_t_followOf U_t_toldMany U_t_toldOf U_t_stepsTo U_t_reachOne U_t_isMarked U_t_markOf u.1 u.2.1 u.2.2 t_value t_place t_sort)) (fun _ => pl) 0 0 := by
  refine met_v (own := RX12) rfl rfl (Nat.le_of_ble_eq_true rfl) (fun X hg hl C hini hret => ?_)
  subst hg
  subst hl
  exact m_X12_readWater C (fun w0 w1 w2 pc lo hp hd => hret (w0, w1, w2) pc lo hp hd) hw
abbrev w_X12_hasWater (g : GG) (A_t A_t_towns : Nat) (U_t_thrown U_t_tape U_t_taped U_t_size U_t_sort U_t_place U_t_value U_t_at U_t_fault U_t_words U_t_op U_t_arg U_t_codes U_t_facts U_t_pile U_t_shadeDay U_t_sun U_t_isShut U_t_sunny U_t_cost U_t_leastCost U_t_leastEnd U_t_wayOf U_t_wayMany U_t_whereAt U_t_reach U_t_likely U_t_crowdAt U_t_crowdBy U_t_crowdRounds U_t_bestSquare U_t_bestBy U_t_spotsMany U_t_spotAt U_t_followed U_t_followOf U_t_toldMany U_t_toldOf U_t_stepsTo U_t_reachOne U_t_isMarked U_t_markOf : Value) (t_towns : Nat → Int32) : va_W := [(A_t, ob 12 [U_t_thrown, U_t_tape, U_t_taped, U_t_size, U_t_sort, U_t_place, U_t_value, U_t_at, U_t_fault, U_t_words, .ref A_t_towns, U_t_op, U_t_arg, U_t_codes, U_t_facts, U_t_pile, U_t_shadeDay, U_t_sun, U_t_isShut, U_t_sunny, U_t_cost, U_t_leastCost, U_t_leastEnd, U_t_wayOf, U_t_wayMany, U_t_whereAt, U_t_reach, U_t_likely, U_t_crowdAt, U_t_crowdBy, U_t_crowdRounds, U_t_bestSquare, U_t_bestBy, U_t_spotsMany, U_t_spotAt, U_t_followed, U_t_followOf, U_t_toldMany, U_t_toldOf, U_t_stepsTo, U_t_reachOne, U_t_isMarked, U_t_markOf]), (A_t_towns, aI g 2640 t_towns)]
set_option maxRecDepth 20000 in
theorem m_X12_hasWater_L4 {X : Ctx} (C : Cok X cX12_hasWater 4 RX12 (rmL 0) Fz0) {pl : Pool} {A_t A_t_towns : Nat} {U_t_thrown U_t_tape U_t_taped U_t_size U_t_sort U_t_place U_t_value U_t_at U_t_fault U_t_words U_t_op U_t_arg U_t_codes U_t_facts U_t_pile U_t_shadeDay U_t_sun U_t_isShut U_t_sunny U_t_cost U_t_leastCost U_t_leastEnd U_t_wayOf U_t_wayMany U_t_whereAt U_t_reach U_t_likely U_t_crowdAt U_t_crowdBy U_t_crowdRounds U_t_bestSquare U_t_bestBy U_t_spotsMany U_t_spotAt U_t_followed U_t_followOf U_t_toldMany U_t_toldOf U_t_stepsTo U_t_reachOne U_t_isMarked U_t_markOf : Value} {t_towns : Nat → Int32} {post : Int32 → Prop} (hret : ∀ (r : Int32) (pc : Nat) (lo : List (Option Value)), b01 r → post r → decode cX12_hasWater pc = .ok (.ireturn, 1) → AW X 4 0 0 (w_X12_hasWater (cxG X) A_t A_t_towns U_t_thrown U_t_tape U_t_taped U_t_size U_t_sort U_t_place U_t_value U_t_at U_t_fault U_t_words U_t_op U_t_arg U_t_codes U_t_facts U_t_pile U_t_shadeDay U_t_sun U_t_isShut U_t_sunny U_t_cost U_t_leastCost U_t_leastEnd U_t_wayOf U_t_wayMany U_t_whereAt U_t_reach U_t_likely U_t_crowdAt U_t_crowdBy U_t_crowdRounds U_t_bestSquare U_t_bestBy U_t_spotsMany U_t_spotAt U_t_followed U_t_followOf U_t_toldMany U_t_toldOf U_t_stepsTo U_t_reachOne U_t_isMarked U_t_markOf t_towns) pl pc lo [.int r]) {x_46 : Int32 → Prop} (hx_46 : ∀ (l2 : Int32) , x_46 l2 → AW X 4 0 0 (w_X12_hasWater (cxG X) A_t A_t_towns U_t_thrown U_t_tape U_t_taped U_t_size U_t_sort U_t_place U_t_value U_t_at U_t_fault U_t_words U_t_op U_t_arg U_t_codes U_t_facts U_t_pile U_t_shadeDay U_t_sun U_t_isShut U_t_sunny U_t_cost U_t_leastCost U_t_leastEnd U_t_wayOf U_t_wayMany U_t_whereAt U_t_reach U_t_likely U_t_crowdAt U_t_crowdBy U_t_crowdRounds U_t_bestSquare U_t_bestBy U_t_spotsMany U_t_spotAt U_t_followed U_t_followOf U_t_toldMany U_t_toldOf U_t_stepsTo U_t_reachOne U_t_isMarked U_t_markOf t_towns) pl 46 [none, none, some (.int l2), none] []) : ∀ (n4 : Nat) (l1 : Int32) (l2 : Int32) (l3 : Int32) , lp (wp_X12_hasWater_L4 x_46 t_towns post) n4 (l1, l2, l3) → AW X 4 0 0 (w_X12_hasWater (cxG X) A_t A_t_towns U_t_thrown U_t_tape U_t_taped U_t_size U_t_sort U_t_place U_t_value U_t_at U_t_fault U_t_words U_t_op U_t_arg U_t_codes U_t_facts U_t_pile U_t_shadeDay U_t_sun U_t_isShut U_t_sunny U_t_cost U_t_leastCost U_t_leastEnd U_t_wayOf U_t_wayMany U_t_whereAt U_t_reach U_t_likely U_t_crowdAt U_t_crowdBy U_t_crowdRounds U_t_bestSquare U_t_bestBy U_t_spotsMany U_t_spotAt U_t_followed U_t_followOf U_t_toldMany U_t_toldOf U_t_stepsTo U_t_reachOne U_t_isMarked U_t_markOf t_towns) pl 4 [some (.ref A_t), some (.int l1), some (.int l2), some (.int l3)] [] := by
  intro n4
  induction n4 with
  | zero => exact fun _ _ _ hw => hw.elim
  | succ n4 hkb =>
    intro l1 l2 l3 hw
    replace hw : wp_X12_hasWater_L4 x_46 t_towns post (lp (wp_X12_hasWater_L4 x_46 t_towns post) n4) (l1, l2, l3) := hw
    generalize lp (wp_X12_hasWater_L4 x_46 t_towns post) n4 = kb at hw hkb
    refine a_iload_n (pc := 4) (i := 3) C dX12_hasWater_4 rfl rfl ?_
    refine a_aload_n (pc := 5) (i := 0) C dX12_hasWater_5 rfl rfl ?_
    refine a_get (pc := 6) C fl_X12_97 dX12_hasWater_6 0 rfl rfl ?_
    refine a_sipush (pc := 9) C dX12_hasWater_9 ks_424 ?_
    obtain ⟨i_12, hw⟩ := hw
    refine a_iald (pc := 12) C dX12_hasWater_12 1 rfl i_12 ?_
    refine a_icmp_ge (pc := 13) (tgt := 46) C dX12_hasWater_13 (by decide) (fun c_13 => ?_) (fun c_13 => ?_)
    · replace hw := hw.1 c_13
      refine a_msk [false, false, true, false] rfl ?_
      exact hx_46 _ hw
    · replace hw := hw.2 c_13
      refine a_iload_n (pc := 16) (i := 2) C dX12_hasWater_16 rfl rfl ?_
      refine a_if_ne (pc := 17) (tgt := 34) C dX12_hasWater_17 (by decide) (fun c_17 => ?_) (fun c_17 => ?_)
      · replace hw := hw.1 c_17
        refine a_iconst (pc := 34) C dX12_hasWater_34 kc_1 ?_
        refine a_goto (pc := 35) (tgt := 39) C dX12_hasWater_35 (by decide) ?_
        refine s_istore_n (pc := 39) (i := 2) (lo' := [some (.ref A_t), some (.int l1), some (.int 1), some (.int l3)]) C dX12_hasWater_39 rfl (by decide) rfl rfl ?_
        refine a_inc (pc := 40) (i := 3) C (fun y => [some (.ref A_t), some (.int l1), some (.int 1), some (.int y)]) dX12_hasWater_40 rfl kc_1 (by decide) rfl (fun _ => rfl) (fun y40 e_y40 => ?_)
        replace hw := hw y40 e_y40
        refine a_goto (pc := 43) (tgt := 4) C dX12_hasWater_43 (by decide) ?_
        exact hkb _ _ _ hw
      · replace hw := hw.2 c_17
        refine a_aload_n (pc := 20) (i := 0) C dX12_hasWater_20 rfl rfl ?_
        refine a_get (pc := 21) C fl_X12_97 dX12_hasWater_21 0 rfl rfl ?_
        refine a_sipush (pc := 24) C dX12_hasWater_24 ks_425 ?_
        refine a_iload_n (pc := 27) (i := 3) C dX12_hasWater_27 rfl rfl ?_
        refine a_iadd (pc := 28) C dX12_hasWater_28 ?_
        refine a_topi (fun x29 e_x29 => ?_)
        replace hw := hw x29 e_x29
        obtain ⟨i_29, hw⟩ := hw
        refine a_iald (pc := 29) C dX12_hasWater_29 1 rfl i_29 ?_
        refine a_iload_n (pc := 30) (i := 1) C dX12_hasWater_30 rfl rfl ?_
        refine a_icmp_ne (pc := 31) (tgt := 38) C dX12_hasWater_31 (by decide) (fun c_31 => ?_) (fun c_31 => ?_)
        · replace hw := hw.1 c_31
          refine a_iconst (pc := 38) C dX12_hasWater_38 kc_0 ?_
          refine s_istore_n (pc := 39) (i := 2) (lo' := [some (.ref A_t), some (.int l1), some (.int 0), some (.int l3)]) C dX12_hasWater_39 rfl (by decide) rfl rfl ?_
          refine a_inc (pc := 40) (i := 3) C (fun y => [some (.ref A_t), some (.int l1), some (.int 0), some (.int y)]) dX12_hasWater_40 rfl kc_1 (by decide) rfl (fun _ => rfl) (fun y40 e_y40 => ?_)
          replace hw := hw y40 e_y40
          refine a_goto (pc := 43) (tgt := 4) C dX12_hasWater_43 (by decide) ?_
          exact hkb _ _ _ hw
        · replace hw := hw.2 c_31
          refine a_iconst (pc := 34) C dX12_hasWater_34 kc_1 ?_
          refine a_goto (pc := 35) (tgt := 39) C dX12_hasWater_35 (by decide) ?_
          refine s_istore_n (pc := 39) (i := 2) (lo' := [some (.ref A_t), some (.int l1), some (.int 1), some (.int l3)]) C dX12_hasWater_39 rfl (by decide) rfl rfl ?_
          refine a_inc (pc := 40) (i := 3) C (fun y => [some (.ref A_t), some (.int l1), some (.int 1), some (.int y)]) dX12_hasWater_40 rfl kc_1 (by decide) rfl (fun _ => rfl) (fun y40 e_y40 => ?_)
          replace hw := hw y40 e_y40
          refine a_goto (pc := 43) (tgt := 4) C dX12_hasWater_43 (by decide) ?_
          exact hkb _ _ _ hw
set_option maxRecDepth 20000 in
theorem m_X12_hasWater {X : Ctx} (C : Cok X cX12_hasWater 4 RX12 (rmL 0) Fz0) {pl : Pool} {A_t A_t_towns : Nat} {U_t_thrown U_t_tape U_t_taped U_t_size U_t_sort U_t_place U_t_value U_t_at U_t_fault U_t_words U_t_op U_t_arg U_t_codes U_t_facts U_t_pile U_t_shadeDay U_t_sun U_t_isShut U_t_sunny U_t_cost U_t_leastCost U_t_leastEnd U_t_wayOf U_t_wayMany U_t_whereAt U_t_reach U_t_likely U_t_crowdAt U_t_crowdBy U_t_crowdRounds U_t_bestSquare U_t_bestBy U_t_spotsMany U_t_spotAt U_t_followed U_t_followOf U_t_toldMany U_t_toldOf U_t_stepsTo U_t_reachOne U_t_isMarked U_t_markOf : Value} {t_towns : Nat → Int32} {p1 : Int32} {post : Int32 → Prop} (hret : ∀ (r : Int32) (pc : Nat) (lo : List (Option Value)), b01 r → post r → decode cX12_hasWater pc = .ok (.ireturn, 1) → AW X 4 0 0 (w_X12_hasWater (cxG X) A_t A_t_towns U_t_thrown U_t_tape U_t_taped U_t_size U_t_sort U_t_place U_t_value U_t_at U_t_fault U_t_words U_t_op U_t_arg U_t_codes U_t_facts U_t_pile U_t_shadeDay U_t_sun U_t_isShut U_t_sunny U_t_cost U_t_leastCost U_t_leastEnd U_t_wayOf U_t_wayMany U_t_whereAt U_t_reach U_t_likely U_t_crowdAt U_t_crowdBy U_t_crowdRounds U_t_bestSquare U_t_bestBy U_t_spotsMany U_t_spotAt U_t_followed U_t_followOf U_t_toldMany U_t_toldOf U_t_stepsTo U_t_reachOne U_t_isMarked U_t_markOf t_towns) pl pc lo [.int r]) (hw : wp_X12_hasWater t_towns p1 post) : AW X 4 0 0 (w_X12_hasWater (cxG X) A_t A_t_towns U_t_thrown U_t_tape U_t_taped U_t_size U_t_sort U_t_place U_t_value U_t_at U_t_fault U_t_words U_t_op U_t_arg U_t_codes U_t_facts U_t_pile U_t_shadeDay U_t_sun U_t_isShut U_t_sunny U_t_cost U_t_leastCost U_t_leastEnd U_t_wayOf U_t_wayMany U_t_whereAt U_t_reach U_t_likely U_t_crowdAt U_t_crowdBy U_t_crowdRounds U_t_bestSquare U_t_bestBy U_t_spotsMany U_t_spotAt U_t_followed U_t_followOf U_t_toldMany U_t_toldOf U_t_stepsTo U_t_reachOne U_t_isMarked U_t_markOf t_towns) pl 0 [some (.ref A_t), some (.int p1), none, none] [] := by
  refine a_iconst (pc := 0) C dX12_hasWater_0 kc_0 ?_
  refine s_istore_n (pc := 1) (i := 2) (lo' := [some (.ref A_t), some (.int p1), some (.int 0), none]) C dX12_hasWater_1 rfl (by decide) rfl rfl ?_
  refine a_iconst (pc := 2) C dX12_hasWater_2 kc_0 ?_
  refine s_istore_n (pc := 3) (i := 3) (lo' := [some (.ref A_t), some (.int p1), some (.int 0), some (.int 0)]) C dX12_hasWater_3 rfl (by decide) rfl rfl ?_
  obtain ⟨n4, hw⟩ := hw
  refine m_X12_hasWater_L4 C hret (fun l2 hw => ?_) n4 _ _ _ hw
  refine a_iload_n (pc := 46) (i := 2) C dX12_hasWater_46 rfl rfl ?_
  obtain ⟨z_47, hw⟩ := hw
  exact hret _ _ _ z_47 hw dX12_hasWater_47
theorem c_X12_hasWater {l : Launch} {g : GG} {pl : Pool} (A_t A_t_towns : Nat) (U_t_thrown U_t_tape U_t_taped U_t_size U_t_sort U_t_place U_t_value U_t_at U_t_fault U_t_words U_t_op U_t_arg U_t_codes U_t_facts U_t_pile U_t_shadeDay U_t_sun U_t_isShut U_t_sunny U_t_cost U_t_leastCost U_t_leastEnd U_t_wayOf U_t_wayMany U_t_whereAt U_t_reach U_t_likely U_t_crowdAt U_t_crowdBy U_t_crowdRounds U_t_bestSquare U_t_bestBy U_t_spotsMany U_t_spotAt U_t_followed U_t_followOf U_t_toldMany U_t_toldOf U_t_stepsTo U_t_reachOne U_t_isMarked U_t_markOf : Value) {t_towns : Nat → Int32} {p1 : Int32} {post : Int32 → Prop} (hw : wp_X12_hasWater t_towns p1 post) : MI l yX12_hasWater cX12_hasWater 4 (some .boolean) (rmL 0) g Fz0 [.ref A_t, .int p1] (w_X12_hasWater g A_t A_t_towns U_t_thrown U_t_tape U_t_taped U_t_size U_t_sort U_t_place U_t_value U_t_at U_t_fault U_t_words U_t_op U_t_arg U_t_codes U_t_facts U_t_pile U_t_shadeDay U_t_sun U_t_isShut U_t_sunny U_t_cost U_t_leastCost U_t_leastEnd U_t_wayOf U_t_wayMany U_t_whereAt U_t_reach U_t_likely U_t_crowdAt U_t_crowdBy U_t_crowdRounds U_t_bestSquare U_t_bestBy U_t_spotsMany U_t_spotAt U_t_followed U_t_followOf U_t_toldMany U_t_toldOf U_t_stepsTo U_t_reachOne U_t_isMarked U_t_markOf t_towns) pl (fun r (_ : Unit) => b01 r ∧ post r) (fun _ => (w_X12_hasWater g A_t A_t_towns U_t_thrown U_t_tape U_t_taped U_t_size U_t_sort U_t_place U_t_value U_t_at U_t_fault U_t_words U_t_op U_t_arg U_t_codes U_t_facts U_t_pile U_t_shadeDay U_t_sun U_t_isShut U_t_sunny U_t_cost U_t_leastCost U_t_leastEnd U_t_wayOf U_t_wayMany U_t_whereAt U_t_reach U_t_likely U_t_crowdAt U_t_crowdBy U_t_crowdRounds U_t_bestSquare U_t_bestBy U_t_spotsMany U_t_spotAt U_t_followed U_t_followOf U_t_toldMany U_t_toldOf U_t_stepsTo U_t_reachOne U_t_isMarked U_t_markOf t_towns)) (fun _ => pl) 0 0 := by
  refine mi_b01 ?_
  refine met_z (own := RX12) rfl rfl (Nat.le_of_ble_eq_true rfl) (fun X hg hl C hini hret => ?_)
  subst hg
  subst hl
  exact m_X12_hasWater C (fun r pc lo z hp hd => hret r () pc lo (b01_nar z) hp hd) hw
abbrev w_X12_both (g : GG) : va_W := []
theorem sw_X12_both_1 {x : Int32} (h0 : ¬ x = 4) (h1 : ¬ x = 5) (h2 : ¬ x = 6) (h3 : ¬ x = 7) (h4 : ¬ x = 8) (h5 : ¬ x = 9) : x.toInt < 4 ∨ 9 < x.toInt := by
  have k0 : x.toInt ≠ 4 := fun z => h0 (Int32.toInt_inj.mp (z.trans (by decide)))
  have k1 : x.toInt ≠ 5 := fun z => h1 (Int32.toInt_inj.mp (z.trans (by decide)))
  have k2 : x.toInt ≠ 6 := fun z => h2 (Int32.toInt_inj.mp (z.trans (by decide)))
  have k3 : x.toInt ≠ 7 := fun z => h3 (Int32.toInt_inj.mp (z.trans (by decide)))
  have k4 : x.toInt ≠ 8 := fun z => h4 (Int32.toInt_inj.mp (z.trans (by decide)))
  have k5 : x.toInt ≠ 9 := fun z => h5 (Int32.toInt_inj.mp (z.trans (by decide)))
  omega
set_option maxRecDepth 20000 in
theorem m_X12_both {X : Ctx} (C : Cok X cX12_both 3 RX12 (rmL 0) Fz0) {pl : Pool} {p0 : Int32} {p1 : Int32} {p2 : Int32} {post : Int32 → Prop} (hret : ∀ (r : Int32) (pc : Nat) (lo : List (Option Value)), post r → decode cX12_both pc = .ok (.ireturn, 1) → AW X 3 0 0 (w_X12_both (cxG X)) pl pc lo [.int r]) (hw : wp_X12_both p0 p1 p2 post) : AW X 3 0 0 (w_X12_both (cxG X)) pl 0 [some (.int p0), some (.int p1), some (.int p2)] [] := by
  refine a_iload_n (pc := 0) (i := 0) C dX12_both_0 rfl rfl ?_
  by_cases c_1_0 : p0 = 4
  · replace hw := hw.1 c_1_0
    refine a_tableIn (pc := 1) (off := 39) (tgt := 40) C dX12_both_1 (by rw [c_1_0]; decide) (by rw [c_1_0]; decide) (by rw [c_1_0]; rfl) (by decide) ?_
    refine a_iload_n (pc := 40) (i := 1) C dX12_both_40 rfl rfl ?_
    refine a_iload_n (pc := 41) (i := 2) C dX12_both_41 rfl rfl ?_
    refine a_iadd (pc := 42) C dX12_both_42 ?_
    exact hret _ _ _ hw dX12_both_43
  · by_cases c_1_1 : p0 = 5
    · replace hw := hw.2.1 c_1_1
      refine a_tableIn (pc := 1) (off := 43) (tgt := 44) C dX12_both_1 (by rw [c_1_1]; decide) (by rw [c_1_1]; decide) (by rw [c_1_1]; rfl) (by decide) ?_
      refine a_iload_n (pc := 44) (i := 1) C dX12_both_44 rfl rfl ?_
      refine a_iload_n (pc := 45) (i := 2) C dX12_both_45 rfl rfl ?_
      refine a_isub (pc := 46) C dX12_both_46 ?_
      exact hret _ _ _ hw dX12_both_47
    · by_cases c_1_2 : p0 = 6
      · replace hw := hw.2.2.1 c_1_2
        refine a_tableIn (pc := 1) (off := 47) (tgt := 48) C dX12_both_1 (by rw [c_1_2]; decide) (by rw [c_1_2]; decide) (by rw [c_1_2]; rfl) (by decide) ?_
        refine a_iload_n (pc := 48) (i := 1) C dX12_both_48 rfl rfl ?_
        refine a_iload_n (pc := 49) (i := 2) C dX12_both_49 rfl rfl ?_
        refine a_imul (pc := 50) C dX12_both_50 ?_
        exact hret _ _ _ hw dX12_both_51
      · by_cases c_1_3 : p0 = 7
        · replace hw := hw.2.2.2.1 c_1_3
          refine a_tableIn (pc := 1) (off := 51) (tgt := 52) C dX12_both_1 (by rw [c_1_3]; decide) (by rw [c_1_3]; decide) (by rw [c_1_3]; rfl) (by decide) ?_
          refine a_iload_n (pc := 52) (i := 1) C dX12_both_52 rfl rfl ?_
          refine a_iload_n (pc := 53) (i := 2) C dX12_both_53 rfl rfl ?_
          refine a_icmp_ge (pc := 54) (tgt := 61) C dX12_both_54 (by decide) (fun c_54 => ?_) (fun c_54 => ?_)
          · replace hw := hw.1 c_54
            refine a_iconst (pc := 61) C dX12_both_61 kc_0 ?_
            exact hret _ _ _ hw dX12_both_62
          · replace hw := hw.2 c_54
            refine a_iconst (pc := 57) C dX12_both_57 kc_1 ?_
            refine a_goto (pc := 58) (tgt := 62) C dX12_both_58 (by decide) ?_
            exact hret _ _ _ hw dX12_both_62
        · by_cases c_1_4 : p0 = 8
          · replace hw := hw.2.2.2.2.1 c_1_4
            refine a_tableIn (pc := 1) (off := 62) (tgt := 63) C dX12_both_1 (by rw [c_1_4]; decide) (by rw [c_1_4]; decide) (by rw [c_1_4]; rfl) (by decide) ?_
            refine a_iload_n (pc := 63) (i := 1) C dX12_both_63 rfl rfl ?_
            refine a_iload_n (pc := 64) (i := 2) C dX12_both_64 rfl rfl ?_
            refine a_icmp_ne (pc := 65) (tgt := 72) C dX12_both_65 (by decide) (fun c_65 => ?_) (fun c_65 => ?_)
            · replace hw := hw.1 c_65
              refine a_iconst (pc := 72) C dX12_both_72 kc_0 ?_
              exact hret _ _ _ hw dX12_both_73
            · replace hw := hw.2 c_65
              refine a_iconst (pc := 68) C dX12_both_68 kc_1 ?_
              refine a_goto (pc := 69) (tgt := 73) C dX12_both_69 (by decide) ?_
              exact hret _ _ _ hw dX12_both_73
          · by_cases c_1_5 : p0 = 9
            · replace hw := hw.2.2.2.2.2.1 c_1_5
              refine a_tableIn (pc := 1) (off := 73) (tgt := 74) C dX12_both_1 (by rw [c_1_5]; decide) (by rw [c_1_5]; decide) (by rw [c_1_5]; rfl) (by decide) ?_
              refine a_iload_n (pc := 74) (i := 1) C dX12_both_74 rfl rfl ?_
              refine a_if_eq (pc := 75) (tgt := 86) C dX12_both_75 (by decide) (fun c_75 => ?_) (fun c_75 => ?_)
              · replace hw := hw.1 c_75
                refine a_iconst (pc := 86) C dX12_both_86 kc_0 ?_
                exact hret _ _ _ hw dX12_both_87
              · replace hw := hw.2 c_75
                refine a_iload_n (pc := 78) (i := 2) C dX12_both_78 rfl rfl ?_
                refine a_if_eq (pc := 79) (tgt := 86) C dX12_both_79 (by decide) (fun c_79 => ?_) (fun c_79 => ?_)
                · replace hw := hw.1 c_79
                  refine a_iconst (pc := 86) C dX12_both_86 kc_0 ?_
                  exact hret _ _ _ hw dX12_both_87
                · replace hw := hw.2 c_79
                  refine a_iconst (pc := 82) C dX12_both_82 kc_1 ?_
                  refine a_goto (pc := 83) (tgt := 87) C dX12_both_83 (by decide) ?_
                  exact hret _ _ _ hw dX12_both_87
            · replace hw := hw.2.2.2.2.2.2 c_1_0 c_1_1 c_1_2 c_1_3 c_1_4 c_1_5
              refine a_tableOut (pc := 1) (tgt := 88) C dX12_both_1 (sw_X12_both_1 c_1_0 c_1_1 c_1_2 c_1_3 c_1_4 c_1_5) (by decide) ?_
              refine a_iload_n (pc := 88) (i := 1) C dX12_both_88 rfl rfl ?_
              refine a_if_ne (pc := 89) (tgt := 96) C dX12_both_89 (by decide) (fun c_89 => ?_) (fun c_89 => ?_)
              · replace hw := hw.1 c_89
                refine a_iconst (pc := 96) C dX12_both_96 kc_1 ?_
                refine a_goto (pc := 97) (tgt := 101) C dX12_both_97 (by decide) ?_
                exact hret _ _ _ hw dX12_both_101
              · replace hw := hw.2 c_89
                refine a_iload_n (pc := 92) (i := 2) C dX12_both_92 rfl rfl ?_
                refine a_if_eq (pc := 93) (tgt := 100) C dX12_both_93 (by decide) (fun c_93 => ?_) (fun c_93 => ?_)
                · replace hw := hw.1 c_93
                  refine a_iconst (pc := 100) C dX12_both_100 kc_0 ?_
                  exact hret _ _ _ hw dX12_both_101
                · replace hw := hw.2 c_93
                  refine a_iconst (pc := 96) C dX12_both_96 kc_1 ?_
                  refine a_goto (pc := 97) (tgt := 101) C dX12_both_97 (by decide) ?_
                  exact hret _ _ _ hw dX12_both_101
theorem c_X12_both {l : Launch} {g : GG} {pl : Pool} {p0 : Int32} {p1 : Int32} {p2 : Int32} {post : Int32 → Prop} (hw : wp_X12_both p0 p1 p2 post) : MI l yX12_both cX12_both 3 (some .int) (rmL 0) g Fz0 [.int p0, .int p1, .int p2] (w_X12_both g) pl (fun r (_ : Unit) => post r) (fun _ => (w_X12_both g)) (fun _ => pl) 0 0 := by
  refine met_i (own := RX12) rfl rfl (Nat.le_of_ble_eq_true rfl) (fun X hg hl C hini hret => ?_)
  subst hg
  subst hl
  exact m_X12_both C (fun r pc lo hp hd => hret r () pc lo hp hd) hw
abbrev w_X12_worthAt (g : GG) (A_t A_t_op A_t_pile A_t_facts A_t_arg : Nat) (U_t_thrown U_t_tape U_t_taped U_t_size U_t_sort U_t_place U_t_value U_t_at U_t_fault U_t_words U_t_towns U_t_codes U_t_shadeDay U_t_sun U_t_isShut U_t_sunny U_t_cost U_t_leastCost U_t_leastEnd U_t_wayOf U_t_wayMany U_t_whereAt U_t_reach U_t_likely U_t_crowdAt U_t_crowdBy U_t_crowdRounds U_t_bestSquare U_t_bestBy U_t_spotsMany U_t_spotAt U_t_followed U_t_followOf U_t_toldMany U_t_toldOf U_t_stepsTo U_t_reachOne U_t_isMarked U_t_markOf : Value) (t_op : Nat → Int32) (t_pile : Nat → Int32) (t_facts : Nat → Int32) (t_arg : Nat → Int32) : va_W := [(A_t, ob 12 [U_t_thrown, U_t_tape, U_t_taped, U_t_size, U_t_sort, U_t_place, U_t_value, U_t_at, U_t_fault, U_t_words, U_t_towns, .ref A_t_op, .ref A_t_arg, U_t_codes, .ref A_t_facts, .ref A_t_pile, U_t_shadeDay, U_t_sun, U_t_isShut, U_t_sunny, U_t_cost, U_t_leastCost, U_t_leastEnd, U_t_wayOf, U_t_wayMany, U_t_whereAt, U_t_reach, U_t_likely, U_t_crowdAt, U_t_crowdBy, U_t_crowdRounds, U_t_bestSquare, U_t_bestBy, U_t_spotsMany, U_t_spotAt, U_t_followed, U_t_followOf, U_t_toldMany, U_t_toldOf, U_t_stepsTo, U_t_reachOne, U_t_isMarked, U_t_markOf]), (A_t_op, aI g 6600 t_op), (A_t_pile, aI g 1100 t_pile), (A_t_facts, aI g 2 t_facts), (A_t_arg, aI g 6600 t_arg)]
set_option maxRecDepth 20000 in
theorem m_X12_worthAt_b33 {X : Ctx} (C : Cok X cX12_worthAt 5 RX12 (rmL 1) Fz0) {pl : Pool} {A_t A_t_op A_t_pile A_t_facts A_t_arg : Nat} {U_t_thrown U_t_tape U_t_taped U_t_size U_t_sort U_t_place U_t_value U_t_at U_t_fault U_t_words U_t_towns U_t_codes U_t_shadeDay U_t_sun U_t_isShut U_t_sunny U_t_cost U_t_leastCost U_t_leastEnd U_t_wayOf U_t_wayMany U_t_whereAt U_t_reach U_t_likely U_t_crowdAt U_t_crowdBy U_t_crowdRounds U_t_bestSquare U_t_bestBy U_t_spotsMany U_t_spotAt U_t_followed U_t_followOf U_t_toldMany U_t_toldOf U_t_stepsTo U_t_reachOne U_t_isMarked U_t_markOf : Value} {t_op : Nat → Int32} {t_facts : Nat → Int32} {t_arg : Nat → Int32} {post : Int32 → (Nat → Int32) → Prop} (hret : ∀ (r : Int32) (w0 : Nat → Int32) (pc : Nat) (lo : List (Option Value)), post r w0 → decode cX12_worthAt pc = .ok (.ireturn, 1) → AW X 5 0 0 (w_X12_worthAt (cxG X) A_t A_t_op A_t_pile A_t_facts A_t_arg U_t_thrown U_t_tape U_t_taped U_t_size U_t_sort U_t_place U_t_value U_t_at U_t_fault U_t_words U_t_towns U_t_codes U_t_shadeDay U_t_sun U_t_isShut U_t_sunny U_t_cost U_t_leastCost U_t_leastEnd U_t_wayOf U_t_wayMany U_t_whereAt U_t_reach U_t_likely U_t_crowdAt U_t_crowdBy U_t_crowdRounds U_t_bestSquare U_t_bestBy U_t_spotsMany U_t_spotAt U_t_followed U_t_followOf U_t_toldMany U_t_toldOf U_t_stepsTo U_t_reachOne U_t_isMarked U_t_markOf t_op w0 t_facts t_arg) pl pc lo [.int r]) {x_140 : (Nat → Int32) → Prop} {kb : (Nat → Int32) × Int32 × Int32 → Prop} (hkb : ∀ (t_pile : Nat → Int32) (l2 : Int32) (l3 : Int32) , kb (t_pile, l2, l3) → AW X 5 0 0 (w_X12_worthAt (cxG X) A_t A_t_op A_t_pile A_t_facts A_t_arg U_t_thrown U_t_tape U_t_taped U_t_size U_t_sort U_t_place U_t_value U_t_at U_t_fault U_t_words U_t_towns U_t_codes U_t_shadeDay U_t_sun U_t_isShut U_t_sunny U_t_cost U_t_leastCost U_t_leastEnd U_t_wayOf U_t_wayMany U_t_whereAt U_t_reach U_t_likely U_t_crowdAt U_t_crowdBy U_t_crowdRounds U_t_bestSquare U_t_bestBy U_t_spotsMany U_t_spotAt U_t_followed U_t_followOf U_t_toldMany U_t_toldOf U_t_stepsTo U_t_reachOne U_t_isMarked U_t_markOf t_op t_pile t_facts t_arg) pl 4 [some (.ref A_t), none, some (.int l2), some (.int l3), none] []) (hx_140 : ∀ (t_pile : Nat → Int32) , x_140 t_pile → AW X 5 0 0 (w_X12_worthAt (cxG X) A_t A_t_op A_t_pile A_t_facts A_t_arg U_t_thrown U_t_tape U_t_taped U_t_size U_t_sort U_t_place U_t_value U_t_at U_t_fault U_t_words U_t_towns U_t_codes U_t_shadeDay U_t_sun U_t_isShut U_t_sunny U_t_cost U_t_leastCost U_t_leastEnd U_t_wayOf U_t_wayMany U_t_whereAt U_t_reach U_t_likely U_t_crowdAt U_t_crowdBy U_t_crowdRounds U_t_bestSquare U_t_bestBy U_t_spotsMany U_t_spotAt U_t_followed U_t_followOf U_t_toldMany U_t_toldOf U_t_stepsTo U_t_reachOne U_t_isMarked U_t_markOf t_op t_pile t_facts t_arg) pl 140 [some (.ref A_t), none, none, none, none] []) {t_pile : Nat → Int32} {l2 : Int32} {l3 : Int32} {l4 : Int32} (hw : wp_X12_worthAt_b33  x_140 kb t_op t_facts t_arg post t_pile l2 l3 l4) : AW X 5 0 0 (w_X12_worthAt (cxG X) A_t A_t_op A_t_pile A_t_facts A_t_arg U_t_thrown U_t_tape U_t_taped U_t_size U_t_sort U_t_place U_t_value U_t_at U_t_fault U_t_words U_t_towns U_t_codes U_t_shadeDay U_t_sun U_t_isShut U_t_sunny U_t_cost U_t_leastCost U_t_leastEnd U_t_wayOf U_t_wayMany U_t_whereAt U_t_reach U_t_likely U_t_crowdAt U_t_crowdBy U_t_crowdRounds U_t_bestSquare U_t_bestBy U_t_spotsMany U_t_spotAt U_t_followed U_t_followOf U_t_toldMany U_t_toldOf U_t_stepsTo U_t_reachOne U_t_isMarked U_t_markOf t_op t_pile t_facts t_arg) pl 33 [some (.ref A_t), none, some (.int l2), some (.int l3), some (.int l4)] [] := by
  refine a_aload_n (pc := 33) (i := 0) C dX12_worthAt_33 rfl rfl ?_
  refine a_get (pc := 34) C fl_X12_109 dX12_worthAt_34 0 rfl rfl ?_
  refine a_iload_n (pc := 37) (i := 2) C dX12_worthAt_37 rfl rfl ?_
  refine a_iload (pc := 38) (i := 4) C dX12_worthAt_38 rfl ?_
  refine a_iconst (pc := 40) C dX12_worthAt_40 kc_1 ?_
  refine a_icmp_ne (pc := 41) (tgt := 53) C dX12_worthAt_41 (by decide) (fun c_41 => ?_) (fun c_41 => ?_)
  · replace hw := hw.1 c_41
    refine a_aload_n (pc := 53) (i := 0) C dX12_worthAt_53 rfl rfl ?_
    refine a_get (pc := 54) C fl_X12_106 dX12_worthAt_54 0 rfl rfl ?_
    refine a_aload_n (pc := 57) (i := 0) C dX12_worthAt_57 rfl rfl ?_
    refine a_get (pc := 58) C fl_X12_103 dX12_worthAt_58 0 rfl rfl ?_
    refine a_iload_n (pc := 61) (i := 3) C dX12_worthAt_61 rfl rfl ?_
    obtain ⟨i_62, hw⟩ := hw
    refine a_iald (pc := 62) C dX12_worthAt_62 4 rfl i_62 ?_
    refine a_topi (fun x63 e_x63 => ?_)
    replace hw := hw x63 e_x63
    obtain ⟨i_63, hw⟩ := hw
    refine a_iald (pc := 63) C dX12_worthAt_63 3 rfl i_63 ?_
    refine a_topi (fun x64 e_x64 => ?_)
    replace hw := hw x64 e_x64
    obtain ⟨i_64, hw⟩ := hw
    refine a_iastW (pc := 64) C (fun h => (w_X12_worthAt (cxG X) A_t A_t_op A_t_pile A_t_facts A_t_arg U_t_thrown U_t_tape U_t_taped U_t_size U_t_sort U_t_place U_t_value U_t_at U_t_fault U_t_words U_t_towns U_t_codes U_t_shadeDay U_t_sun U_t_isShut U_t_sunny U_t_cost U_t_leastCost U_t_leastEnd U_t_wayOf U_t_wayMany U_t_whereAt U_t_reach U_t_likely U_t_crowdAt U_t_crowdBy U_t_crowdRounds U_t_bestSquare U_t_bestBy U_t_spotsMany U_t_spotAt U_t_followed U_t_followOf U_t_toldMany U_t_toldOf U_t_stepsTo U_t_reachOne U_t_isMarked U_t_markOf t_op h t_facts t_arg)) dX12_worthAt_64 2 rfl i_64 (fun _ => rfl) (fun t_pile_64 e_t_pile_64 => ?_)
    replace hw := hw t_pile_64 e_t_pile_64
    refine a_inc (pc := 65) (i := 2) C (fun y => [some (.ref A_t), none, some (.int y), some (.int l3), some (.int l4)]) dX12_worthAt_65 rfl kc_1 (by decide) rfl (fun _ => rfl) (fun y65 e_y65 => ?_)
    replace hw := hw y65 e_y65
    refine a_goto (pc := 68) (tgt := 134) C dX12_worthAt_68 (by decide) ?_
    refine a_inc (pc := 134) (i := 3) C (fun y => [some (.ref A_t), none, some (.int y65), some (.int y), some (.int l4)]) dX12_worthAt_134 rfl kc_1 (by decide) rfl (fun _ => rfl) (fun y134 e_y134 => ?_)
    replace hw := hw y134 e_y134
    refine a_goto (pc := 137) (tgt := 4) C dX12_worthAt_137 (by decide) ?_
    refine a_msk [true, true, true, true, false] rfl ?_
    exact hkb _ _ _ hw
  · replace hw := hw.2 c_41
    refine a_aload_n (pc := 44) (i := 0) C dX12_worthAt_44 rfl rfl ?_
    refine a_get (pc := 45) C fl_X12_103 dX12_worthAt_45 0 rfl rfl ?_
    refine a_iload_n (pc := 48) (i := 3) C dX12_worthAt_48 rfl rfl ?_
    obtain ⟨i_49, hw⟩ := hw
    refine a_iald (pc := 49) C dX12_worthAt_49 4 rfl i_49 ?_
    refine a_goto (pc := 50) (tgt := 64) C dX12_worthAt_50 (by decide) ?_
    refine a_topi (fun x64 e_x64 => ?_)
    replace hw := hw x64 e_x64
    obtain ⟨i_64, hw⟩ := hw
    refine a_iastW (pc := 64) C (fun h => (w_X12_worthAt (cxG X) A_t A_t_op A_t_pile A_t_facts A_t_arg U_t_thrown U_t_tape U_t_taped U_t_size U_t_sort U_t_place U_t_value U_t_at U_t_fault U_t_words U_t_towns U_t_codes U_t_shadeDay U_t_sun U_t_isShut U_t_sunny U_t_cost U_t_leastCost U_t_leastEnd U_t_wayOf U_t_wayMany U_t_whereAt U_t_reach U_t_likely U_t_crowdAt U_t_crowdBy U_t_crowdRounds U_t_bestSquare U_t_bestBy U_t_spotsMany U_t_spotAt U_t_followed U_t_followOf U_t_toldMany U_t_toldOf U_t_stepsTo U_t_reachOne U_t_isMarked U_t_markOf t_op h t_facts t_arg)) dX12_worthAt_64 2 rfl i_64 (fun _ => rfl) (fun t_pile_64 e_t_pile_64 => ?_)
    replace hw := hw t_pile_64 e_t_pile_64
    refine a_inc (pc := 65) (i := 2) C (fun y => [some (.ref A_t), none, some (.int y), some (.int l3), some (.int l4)]) dX12_worthAt_65 rfl kc_1 (by decide) rfl (fun _ => rfl) (fun y65 e_y65 => ?_)
    replace hw := hw y65 e_y65
    refine a_goto (pc := 68) (tgt := 134) C dX12_worthAt_68 (by decide) ?_
    refine a_inc (pc := 134) (i := 3) C (fun y => [some (.ref A_t), none, some (.int y65), some (.int y), some (.int l4)]) dX12_worthAt_134 rfl kc_1 (by decide) rfl (fun _ => rfl) (fun y134 e_y134 => ?_)
    replace hw := hw y134 e_y134
    refine a_goto (pc := 137) (tgt := 4) C dX12_worthAt_137 (by decide) ?_
    refine a_msk [true, true, true, true, false] rfl ?_
    exact hkb _ _ _ hw
set_option maxRecDepth 20000 in
theorem m_X12_worthAt_L4 {X : Ctx} (C : Cok X cX12_worthAt 5 RX12 (rmL 1) Fz0) {pl : Pool} {A_t A_t_op A_t_pile A_t_facts A_t_arg : Nat} {U_t_thrown U_t_tape U_t_taped U_t_size U_t_sort U_t_place U_t_value U_t_at U_t_fault U_t_words U_t_towns U_t_codes U_t_shadeDay U_t_sun U_t_isShut U_t_sunny U_t_cost U_t_leastCost U_t_leastEnd U_t_wayOf U_t_wayMany U_t_whereAt U_t_reach U_t_likely U_t_crowdAt U_t_crowdBy U_t_crowdRounds U_t_bestSquare U_t_bestBy U_t_spotsMany U_t_spotAt U_t_followed U_t_followOf U_t_toldMany U_t_toldOf U_t_stepsTo U_t_reachOne U_t_isMarked U_t_markOf : Value} {t_op : Nat → Int32} {t_facts : Nat → Int32} {t_arg : Nat → Int32} {post : Int32 → (Nat → Int32) → Prop} (hret : ∀ (r : Int32) (w0 : Nat → Int32) (pc : Nat) (lo : List (Option Value)), post r w0 → decode cX12_worthAt pc = .ok (.ireturn, 1) → AW X 5 0 0 (w_X12_worthAt (cxG X) A_t A_t_op A_t_pile A_t_facts A_t_arg U_t_thrown U_t_tape U_t_taped U_t_size U_t_sort U_t_place U_t_value U_t_at U_t_fault U_t_words U_t_towns U_t_codes U_t_shadeDay U_t_sun U_t_isShut U_t_sunny U_t_cost U_t_leastCost U_t_leastEnd U_t_wayOf U_t_wayMany U_t_whereAt U_t_reach U_t_likely U_t_crowdAt U_t_crowdBy U_t_crowdRounds U_t_bestSquare U_t_bestBy U_t_spotsMany U_t_spotAt U_t_followed U_t_followOf U_t_toldMany U_t_toldOf U_t_stepsTo U_t_reachOne U_t_isMarked U_t_markOf t_op w0 t_facts t_arg) pl pc lo [.int r]) {x_140 : (Nat → Int32) → Prop} (hx_140 : ∀ (t_pile : Nat → Int32) , x_140 t_pile → AW X 5 0 0 (w_X12_worthAt (cxG X) A_t A_t_op A_t_pile A_t_facts A_t_arg U_t_thrown U_t_tape U_t_taped U_t_size U_t_sort U_t_place U_t_value U_t_at U_t_fault U_t_words U_t_towns U_t_codes U_t_shadeDay U_t_sun U_t_isShut U_t_sunny U_t_cost U_t_leastCost U_t_leastEnd U_t_wayOf U_t_wayMany U_t_whereAt U_t_reach U_t_likely U_t_crowdAt U_t_crowdBy U_t_crowdRounds U_t_bestSquare U_t_bestBy U_t_spotsMany U_t_spotAt U_t_followed U_t_followOf U_t_toldMany U_t_toldOf U_t_stepsTo U_t_reachOne U_t_isMarked U_t_markOf t_op t_pile t_facts t_arg) pl 140 [some (.ref A_t), none, none, none, none] []) : ∀ (n4 : Nat) (t_pile : Nat → Int32) (l2 : Int32) (l3 : Int32) , lp (wp_X12_worthAt_L4 x_140 t_op t_facts t_arg post) n4 (t_pile, l2, l3) → AW X 5 0 0 (w_X12_worthAt (cxG X) A_t A_t_op A_t_pile A_t_facts A_t_arg U_t_thrown U_t_tape U_t_taped U_t_size U_t_sort U_t_place U_t_value U_t_at U_t_fault U_t_words U_t_towns U_t_codes U_t_shadeDay U_t_sun U_t_isShut U_t_sunny U_t_cost U_t_leastCost U_t_leastEnd U_t_wayOf U_t_wayMany U_t_whereAt U_t_reach U_t_likely U_t_crowdAt U_t_crowdBy U_t_crowdRounds U_t_bestSquare U_t_bestBy U_t_spotsMany U_t_spotAt U_t_followed U_t_followOf U_t_toldMany U_t_toldOf U_t_stepsTo U_t_reachOne U_t_isMarked U_t_markOf t_op t_pile t_facts t_arg) pl 4 [some (.ref A_t), none, some (.int l2), some (.int l3), none] [] := by
  intro n4
  induction n4 with
  | zero => exact fun _ _ _ hw => hw.elim
  | succ n4 hkb =>
    intro t_pile l2 l3 hw
    replace hw : wp_X12_worthAt_L4 x_140 t_op t_facts t_arg post (lp (wp_X12_worthAt_L4 x_140 t_op t_facts t_arg post) n4) (t_pile, l2, l3) := hw
    generalize lp (wp_X12_worthAt_L4 x_140 t_op t_facts t_arg post) n4 = kb at hw hkb
    refine a_aload_n (pc := 4) (i := 0) C dX12_worthAt_4 rfl rfl ?_
    refine a_get (pc := 5) C fl_X12_100 dX12_worthAt_5 0 rfl rfl ?_
    refine a_iload_n (pc := 8) (i := 3) C dX12_worthAt_8 rfl rfl ?_
    obtain ⟨i_9, hw⟩ := hw
    refine a_iald (pc := 9) C dX12_worthAt_9 1 rfl i_9 ?_
    refine a_if_eq (pc := 10) (tgt := 140) C dX12_worthAt_10 (by decide) (fun c_10 => ?_) (fun c_10 => ?_)
    · replace hw := hw.1 c_10
      refine a_msk [true, true, false, false, true] rfl ?_
      exact hx_140 _ hw
    · replace hw := hw.2 c_10
      refine a_aload_n (pc := 13) (i := 0) C dX12_worthAt_13 rfl rfl ?_
      refine a_get (pc := 14) C fl_X12_100 dX12_worthAt_14 0 rfl rfl ?_
      refine a_iload_n (pc := 17) (i := 3) C dX12_worthAt_17 rfl rfl ?_
      obtain ⟨i_18, hw⟩ := hw
      refine a_iald (pc := 18) C dX12_worthAt_18 1 rfl i_18 ?_
      refine a_topi (fun x19 e_x19 => ?_)
      replace hw := hw x19 e_x19
      refine s_istore (pc := 19) (i := 4) (lo' := [some (.ref A_t), none, some (.int l2), some (.int l3), some (.int x19)]) C dX12_worthAt_19 (by decide) rfl rfl ?_
      refine a_iload (pc := 21) (i := 4) C dX12_worthAt_21 rfl ?_
      refine a_iconst (pc := 23) C dX12_worthAt_23 kc_1 ?_
      refine a_icmp_eq (pc := 24) (tgt := 33) C dX12_worthAt_24 (by decide) (fun c_24 => ?_) (fun c_24 => ?_)
      · replace hw := hw.1 c_24
        exact m_X12_worthAt_b33 C hret (kb := kb) hkb hx_140 hw
      · replace hw := hw.2 c_24
        refine a_iload (pc := 27) (i := 4) C dX12_worthAt_27 rfl ?_
        refine a_iconst (pc := 29) C dX12_worthAt_29 kc_2 ?_
        refine a_icmp_ne (pc := 30) (tgt := 71) C dX12_worthAt_30 (by decide) (fun c_30 => ?_) (fun c_30 => ?_)
        · replace hw := hw.1 c_30
          refine a_iload (pc := 71) (i := 4) C dX12_worthAt_71 rfl ?_
          refine a_iconst (pc := 73) C dX12_worthAt_73 kc_3 ?_
          refine a_icmp_ne (pc := 74) (tgt := 104) C dX12_worthAt_74 (by decide) (fun c_74 => ?_) (fun c_74 => ?_)
          · replace hw := hw.1 c_74
            refine a_inc (pc := 104) (i := 2) C (fun y => [some (.ref A_t), none, some (.int y), some (.int l3), some (.int x19)]) dX12_worthAt_104 rfl kc_m1 (by decide) rfl (fun _ => rfl) (fun y104 e_y104 => ?_)
            replace hw := hw y104 e_y104
            refine a_aload_n (pc := 107) (i := 0) C dX12_worthAt_107 rfl rfl ?_
            refine a_get (pc := 108) C fl_X12_109 dX12_worthAt_108 0 rfl rfl ?_
            refine a_iload_n (pc := 111) (i := 2) C dX12_worthAt_111 rfl rfl ?_
            refine a_iconst (pc := 112) C dX12_worthAt_112 kc_1 ?_
            refine a_isub (pc := 113) C dX12_worthAt_113 ?_
            refine a_iload (pc := 114) (i := 4) C dX12_worthAt_114 rfl ?_
            refine a_aload_n (pc := 116) (i := 0) C dX12_worthAt_116 rfl rfl ?_
            refine a_get (pc := 117) C fl_X12_109 dX12_worthAt_117 0 rfl rfl ?_
            refine a_iload_n (pc := 120) (i := 2) C dX12_worthAt_120 rfl rfl ?_
            refine a_iconst (pc := 121) C dX12_worthAt_121 kc_1 ?_
            refine a_isub (pc := 122) C dX12_worthAt_122 ?_
            refine a_topi (fun x123 e_x123 => ?_)
            replace hw := hw x123 e_x123
            obtain ⟨i_123, hw⟩ := hw
            refine a_iald (pc := 123) C dX12_worthAt_123 2 rfl i_123 ?_
            refine a_aload_n (pc := 124) (i := 0) C dX12_worthAt_124 rfl rfl ?_
            refine a_get (pc := 125) C fl_X12_109 dX12_worthAt_125 0 rfl rfl ?_
            refine a_iload_n (pc := 128) (i := 2) C dX12_worthAt_128 rfl rfl ?_
            obtain ⟨i_129, hw⟩ := hw
            refine a_iald (pc := 129) C dX12_worthAt_129 2 rfl i_129 ?_
            refine a_callSi (pc := 130) (As := [.int x19, .int (t_pile (Int32.toNatClampNeg x123)), .int (t_pile (Int32.toNatClampNeg y104))]) (st := [.int (y104 - 1), .ref A_t_pile]) (ws' := (fun _ => (w_X12_worthAt (cxG X) A_t A_t_op A_t_pile A_t_facts A_t_arg U_t_thrown U_t_tape U_t_taped U_t_size U_t_sort U_t_place U_t_value U_t_at U_t_fault U_t_words U_t_towns U_t_codes U_t_shadeDay U_t_sun U_t_isShut U_t_sunny U_t_cost U_t_leastCost U_t_leastEnd U_t_wayOf U_t_wayMany U_t_whereAt U_t_reach U_t_likely U_t_crowdAt U_t_crowdBy U_t_crowdRounds U_t_bestSquare U_t_bestBy U_t_spotsMany U_t_spotAt U_t_followed U_t_followOf U_t_toldMany U_t_toldOf U_t_stepsTo U_t_reachOne U_t_isMarked U_t_markOf t_op t_pile t_facts t_arg))) C (c_X12_both hw) dX12_worthAt_130 mth_X12_both tml_X12_285 (fun _ _ h => trivial) Fz0_ok (rml (by decide) (by decide)) (Nat.le_of_ble_eq_true rfl) rfl rfl [] [0, 1, 2, 3, 4] [0, 1, 2, 3, 4] rfl rfl rfl rfl rfl rfl (fun _ => rfl) rfl (fun _ => rfl) (fun r130 u hw => ?_)
            show AW X 5 0 0 (w_X12_worthAt (cxG X) A_t A_t_op A_t_pile A_t_facts A_t_arg U_t_thrown U_t_tape U_t_taped U_t_size U_t_sort U_t_place U_t_value U_t_at U_t_fault U_t_words U_t_towns U_t_codes U_t_shadeDay U_t_sun U_t_isShut U_t_sunny U_t_cost U_t_leastCost U_t_leastEnd U_t_wayOf U_t_wayMany U_t_whereAt U_t_reach U_t_likely U_t_crowdAt U_t_crowdBy U_t_crowdRounds U_t_bestSquare U_t_bestBy U_t_spotsMany U_t_spotAt U_t_followed U_t_followOf U_t_toldMany U_t_toldOf U_t_stepsTo U_t_reachOne U_t_isMarked U_t_markOf t_op t_pile t_facts t_arg) pl 133 [some (.ref A_t), none, some (.int y104), some (.int l3), some (.int x19)] [.int r130, .int (y104 - 1), .ref A_t_pile]
            refine a_top2i (fun x133 e_x133 => ?_)
            replace hw := hw x133 e_x133
            obtain ⟨i_133, hw⟩ := hw
            refine a_iastW (pc := 133) C (fun h => (w_X12_worthAt (cxG X) A_t A_t_op A_t_pile A_t_facts A_t_arg U_t_thrown U_t_tape U_t_taped U_t_size U_t_sort U_t_place U_t_value U_t_at U_t_fault U_t_words U_t_towns U_t_codes U_t_shadeDay U_t_sun U_t_isShut U_t_sunny U_t_cost U_t_leastCost U_t_leastEnd U_t_wayOf U_t_wayMany U_t_whereAt U_t_reach U_t_likely U_t_crowdAt U_t_crowdBy U_t_crowdRounds U_t_bestSquare U_t_bestBy U_t_spotsMany U_t_spotAt U_t_followed U_t_followOf U_t_toldMany U_t_toldOf U_t_stepsTo U_t_reachOne U_t_isMarked U_t_markOf t_op h t_facts t_arg)) dX12_worthAt_133 2 rfl i_133 (fun _ => rfl) (fun t_pile_133 e_t_pile_133 => ?_)
            replace hw := hw t_pile_133 e_t_pile_133
            refine a_inc (pc := 134) (i := 3) C (fun y => [some (.ref A_t), none, some (.int y104), some (.int y), some (.int x19)]) dX12_worthAt_134 rfl kc_1 (by decide) rfl (fun _ => rfl) (fun y134 e_y134 => ?_)
            replace hw := hw y134 e_y134
            refine a_goto (pc := 137) (tgt := 4) C dX12_worthAt_137 (by decide) ?_
            refine a_msk [true, true, true, true, false] rfl ?_
            exact hkb _ _ _ hw
          · replace hw := hw.2 c_74
            refine a_aload_n (pc := 77) (i := 0) C dX12_worthAt_77 rfl rfl ?_
            refine a_get (pc := 78) C fl_X12_109 dX12_worthAt_78 0 rfl rfl ?_
            refine a_iload_n (pc := 81) (i := 2) C dX12_worthAt_81 rfl rfl ?_
            refine a_iconst (pc := 82) C dX12_worthAt_82 kc_1 ?_
            refine a_isub (pc := 83) C dX12_worthAt_83 ?_
            refine a_aload_n (pc := 84) (i := 0) C dX12_worthAt_84 rfl rfl ?_
            refine a_get (pc := 85) C fl_X12_109 dX12_worthAt_85 0 rfl rfl ?_
            refine a_iload_n (pc := 88) (i := 2) C dX12_worthAt_88 rfl rfl ?_
            refine a_iconst (pc := 89) C dX12_worthAt_89 kc_1 ?_
            refine a_isub (pc := 90) C dX12_worthAt_90 ?_
            refine a_topi (fun x91 e_x91 => ?_)
            replace hw := hw x91 e_x91
            obtain ⟨i_91, hw⟩ := hw
            refine a_iald (pc := 91) C dX12_worthAt_91 2 rfl i_91 ?_
            refine a_if_ne (pc := 92) (tgt := 99) C dX12_worthAt_92 (by decide) (fun c_92 => ?_) (fun c_92 => ?_)
            · replace hw := hw.1 c_92
              refine a_iconst (pc := 99) C dX12_worthAt_99 kc_0 ?_
              refine a_top2i (fun x100 e_x100 => ?_)
              replace hw := hw x100 e_x100
              obtain ⟨i_100, hw⟩ := hw
              refine a_iastW (pc := 100) C (fun h => (w_X12_worthAt (cxG X) A_t A_t_op A_t_pile A_t_facts A_t_arg U_t_thrown U_t_tape U_t_taped U_t_size U_t_sort U_t_place U_t_value U_t_at U_t_fault U_t_words U_t_towns U_t_codes U_t_shadeDay U_t_sun U_t_isShut U_t_sunny U_t_cost U_t_leastCost U_t_leastEnd U_t_wayOf U_t_wayMany U_t_whereAt U_t_reach U_t_likely U_t_crowdAt U_t_crowdBy U_t_crowdRounds U_t_bestSquare U_t_bestBy U_t_spotsMany U_t_spotAt U_t_followed U_t_followOf U_t_toldMany U_t_toldOf U_t_stepsTo U_t_reachOne U_t_isMarked U_t_markOf t_op h t_facts t_arg)) dX12_worthAt_100 2 rfl i_100 (fun _ => rfl) (fun t_pile_100 e_t_pile_100 => ?_)
              replace hw := hw t_pile_100 e_t_pile_100
              refine a_goto (pc := 101) (tgt := 134) C dX12_worthAt_101 (by decide) ?_
              refine a_inc (pc := 134) (i := 3) C (fun y => [some (.ref A_t), none, some (.int l2), some (.int y), some (.int x19)]) dX12_worthAt_134 rfl kc_1 (by decide) rfl (fun _ => rfl) (fun y134 e_y134 => ?_)
              replace hw := hw y134 e_y134
              refine a_goto (pc := 137) (tgt := 4) C dX12_worthAt_137 (by decide) ?_
              refine a_msk [true, true, true, true, false] rfl ?_
              exact hkb _ _ _ hw
            · replace hw := hw.2 c_92
              refine a_iconst (pc := 95) C dX12_worthAt_95 kc_1 ?_
              refine a_goto (pc := 96) (tgt := 100) C dX12_worthAt_96 (by decide) ?_
              refine a_top2i (fun x100 e_x100 => ?_)
              replace hw := hw x100 e_x100
              obtain ⟨i_100, hw⟩ := hw
              refine a_iastW (pc := 100) C (fun h => (w_X12_worthAt (cxG X) A_t A_t_op A_t_pile A_t_facts A_t_arg U_t_thrown U_t_tape U_t_taped U_t_size U_t_sort U_t_place U_t_value U_t_at U_t_fault U_t_words U_t_towns U_t_codes U_t_shadeDay U_t_sun U_t_isShut U_t_sunny U_t_cost U_t_leastCost U_t_leastEnd U_t_wayOf U_t_wayMany U_t_whereAt U_t_reach U_t_likely U_t_crowdAt U_t_crowdBy U_t_crowdRounds U_t_bestSquare U_t_bestBy U_t_spotsMany U_t_spotAt U_t_followed U_t_followOf U_t_toldMany U_t_toldOf U_t_stepsTo U_t_reachOne U_t_isMarked U_t_markOf t_op h t_facts t_arg)) dX12_worthAt_100 2 rfl i_100 (fun _ => rfl) (fun t_pile_100 e_t_pile_100 => ?_)
              replace hw := hw t_pile_100 e_t_pile_100
              refine a_goto (pc := 101) (tgt := 134) C dX12_worthAt_101 (by decide) ?_
              refine a_inc (pc := 134) (i := 3) C (fun y => [some (.ref A_t), none, some (.int l2), some (.int y), some (.int x19)]) dX12_worthAt_134 rfl kc_1 (by decide) rfl (fun _ => rfl) (fun y134 e_y134 => ?_)
              replace hw := hw y134 e_y134
              refine a_goto (pc := 137) (tgt := 4) C dX12_worthAt_137 (by decide) ?_
              refine a_msk [true, true, true, true, false] rfl ?_
              exact hkb _ _ _ hw
        · replace hw := hw.2 c_30
          exact m_X12_worthAt_b33 C hret (kb := kb) hkb hx_140 hw
set_option maxRecDepth 20000 in
theorem m_X12_worthAt {X : Ctx} (C : Cok X cX12_worthAt 5 RX12 (rmL 1) Fz0) {pl : Pool} {A_t A_t_op A_t_pile A_t_facts A_t_arg : Nat} {U_t_thrown U_t_tape U_t_taped U_t_size U_t_sort U_t_place U_t_value U_t_at U_t_fault U_t_words U_t_towns U_t_codes U_t_shadeDay U_t_sun U_t_isShut U_t_sunny U_t_cost U_t_leastCost U_t_leastEnd U_t_wayOf U_t_wayMany U_t_whereAt U_t_reach U_t_likely U_t_crowdAt U_t_crowdBy U_t_crowdRounds U_t_bestSquare U_t_bestBy U_t_spotsMany U_t_spotAt U_t_followed U_t_followOf U_t_toldMany U_t_toldOf U_t_stepsTo U_t_reachOne U_t_isMarked U_t_markOf : Value} {t_op : Nat → Int32} {t_facts : Nat → Int32} {t_arg : Nat → Int32} {t_pile : Nat → Int32} {p1 : Int32} {post : Int32 → (Nat → Int32) → Prop} (hret : ∀ (r : Int32) (w0 : Nat → Int32) (pc : Nat) (lo : List (Option Value)), post r w0 → decode cX12_worthAt pc = .ok (.ireturn, 1) → AW X 5 0 0 (w_X12_worthAt (cxG X) A_t A_t_op A_t_pile A_t_facts A_t_arg U_t_thrown U_t_tape U_t_taped U_t_size U_t_sort U_t_place U_t_value U_t_at U_t_fault U_t_words U_t_towns U_t_codes U_t_shadeDay U_t_sun U_t_isShut U_t_sunny U_t_cost U_t_leastCost U_t_leastEnd U_t_wayOf U_t_wayMany U_t_whereAt U_t_reach U_t_likely U_t_crowdAt U_t_crowdBy U_t_crowdRounds U_t_bestSquare U_t_bestBy U_t_spotsMany U_t_spotAt U_t_followed U_t_followOf U_t_toldMany U_t_toldOf U_t_stepsTo U_t_reachOne U_t_isMarked U_t_markOf t_op w0 t_facts t_arg) pl pc lo [.int r]) (hw : wp_X12_worthAt t_op t_facts t_arg t_pile p1 post) : AW X 5 0 0 (w_X12_worthAt (cxG X) A_t A_t_op A_t_pile A_t_facts A_t_arg U_t_thrown U_t_tape U_t_taped U_t_size U_t_sort U_t_place U_t_value U_t_at U_t_fault U_t_words U_t_towns U_t_codes U_t_shadeDay U_t_sun U_t_isShut U_t_sunny U_t_cost U_t_leastCost U_t_leastEnd U_t_wayOf U_t_wayMany U_t_whereAt U_t_reach U_t_likely U_t_crowdAt U_t_crowdBy U_t_crowdRounds U_t_bestSquare U_t_bestBy U_t_spotsMany U_t_spotAt U_t_followed U_t_followOf U_t_toldMany U_t_toldOf U_t_stepsTo U_t_reachOne U_t_isMarked U_t_markOf t_op t_pile t_facts t_arg) pl 0 [some (.ref A_t), some (.int p1), none, none, none] [] := by
  refine a_iconst (pc := 0) C dX12_worthAt_0 kc_0 ?_
  refine s_istore_n (pc := 1) (i := 2) (lo' := [some (.ref A_t), some (.int p1), some (.int 0), none, none]) C dX12_worthAt_1 rfl (by decide) rfl rfl ?_
  refine a_iload_n (pc := 2) (i := 1) C dX12_worthAt_2 rfl rfl ?_
  refine s_istore_n (pc := 3) (i := 3) (lo' := [some (.ref A_t), some (.int p1), some (.int 0), some (.int p1), none]) C dX12_worthAt_3 rfl (by decide) rfl rfl ?_
  refine a_msk [true, false, true, true, true] rfl ?_
  obtain ⟨n4, hw⟩ := hw
  refine m_X12_worthAt_L4 C hret (fun t_pile hw => ?_) n4 _ _ _ hw
  refine a_aload_n (pc := 140) (i := 0) C dX12_worthAt_140 rfl rfl ?_
  refine a_get (pc := 141) C fl_X12_109 dX12_worthAt_141 0 rfl rfl ?_
  refine a_iconst (pc := 144) C dX12_worthAt_144 kc_0 ?_
  obtain ⟨i_145, hw⟩ := hw
  refine a_iald (pc := 145) C dX12_worthAt_145 2 rfl i_145 ?_
  exact hret _ _ _ _ hw dX12_worthAt_146
theorem c_X12_worthAt {l : Launch} {g : GG} {pl : Pool} (A_t A_t_op A_t_pile A_t_facts A_t_arg : Nat) (U_t_thrown U_t_tape U_t_taped U_t_size U_t_sort U_t_place U_t_value U_t_at U_t_fault U_t_words U_t_towns U_t_codes U_t_shadeDay U_t_sun U_t_isShut U_t_sunny U_t_cost U_t_leastCost U_t_leastEnd U_t_wayOf U_t_wayMany U_t_whereAt U_t_reach U_t_likely U_t_crowdAt U_t_crowdBy U_t_crowdRounds U_t_bestSquare U_t_bestBy U_t_spotsMany U_t_spotAt U_t_followed U_t_followOf U_t_toldMany U_t_toldOf U_t_stepsTo U_t_reachOne U_t_isMarked U_t_markOf : Value) {t_op : Nat → Int32} {t_facts : Nat → Int32} {t_arg : Nat → Int32} {t_pile : Nat → Int32} {p1 : Int32} {post : Int32 → (Nat → Int32) → Prop} (hw : wp_X12_worthAt t_op t_facts t_arg t_pile p1 post) : MI l yX12_worthAt cX12_worthAt 5 (some .int) (rmL 1) g Fz0 [.ref A_t, .int p1] (w_X12_worthAt g A_t A_t_op A_t_pile A_t_facts A_t_arg U_t_thrown U_t_tape U_t_taped U_t_size U_t_sort U_t_place U_t_value U_t_at U_t_fault U_t_words U_t_towns U_t_codes U_t_shadeDay U_t_sun U_t_isShut U_t_sunny U_t_cost U_t_leastCost U_t_leastEnd U_t_wayOf U_t_wayMany U_t_whereAt U_t_reach U_t_likely U_t_crowdAt U_t_crowdBy U_t_crowdRounds U_t_bestSquare U_t_bestBy U_t_spotsMany U_t_spotAt U_t_followed U_t_followOf U_t_toldMany U_t_toldOf U_t_stepsTo U_t_reachOne U_t_isMarked U_t_markOf t_op t_pile t_facts t_arg) pl (fun r (u : (Nat → Int32)) => post r u) (fun u => (w_X12_worthAt g A_t A_t_op A_t_pile A_t_facts A_t_arg U_t_thrown U_t_tape U_t_taped U_t_size U_t_sort U_t_place U_t_value U_t_at U_t_fault U_t_words U_t_towns U_t_codes U_t_shadeDay U_t_sun U_t_isShut U_t_sunny U_t_cost U_t_leastCost U_t_leastEnd U_t_wayOf U_t_wayMany U_t_whereAt U_t_reach U_t_likely U_t_crowdAt U_t_crowdBy U_t_crowdRounds U_t_bestSquare U_t_bestBy U_t_spotsMany U_t_spotAt U_t_followed U_t_followOf U_t_toldMany U_t_toldOf U_t_stepsTo U_t_reachOne U_t_isMarked U_t_markOf t_op u t_facts t_arg)) (fun _ => pl) 0 0 := by
  refine met_i (own := RX12) rfl rfl (Nat.le_of_ble_eq_true rfl) (fun X hg hl C hini hret => ?_)
  subst hg
  subst hl
  exact m_X12_worthAt C (fun r w0 pc lo hp hd => hret r w0 pc lo hp hd) hw
abbrev w_X12_isDay (g : GG) : va_W := []
set_option maxRecDepth 20000 in
theorem m_X12_isDay {X : Ctx} (C : Cok X cX12_isDay 1 RX12 (rmL 1) Fz0) {pl : Pool} {p0 : Int32} {post : Int32 → Prop} (hret : ∀ (r : Int32) (pc : Nat) (lo : List (Option Value)), b01 r → post r → decode cX12_isDay pc = .ok (.ireturn, 1) → AW X 1 0 0 (w_X12_isDay (cxG X)) pl pc lo [.int r]) (hw : wp_X12_isDay p0 post) : AW X 1 0 0 (w_X12_isDay (cxG X)) pl 0 [some (.int p0)] [] := by
  replace hw : wp_X12_within p0 0 3 (fun r3 => b01 r3 ∧ (post r3)) := hw
  refine a_iload_n (pc := 0) (i := 0) C dX12_isDay_0 rfl rfl ?_
  refine a_iconst (pc := 1) C dX12_isDay_1 kc_0 ?_
  refine a_iconst (pc := 2) C dX12_isDay_2 kc_3 ?_
  refine a_callSi (pc := 3) (As := [.int p0, .int 0, .int 3]) (st := []) (ws' := (fun _ => (w_X12_isDay (cxG X)))) C (c_X12_within hw) dX12_isDay_3 mth_X12_within tml_X12_289 (fun _ _ h => trivial) Fz0_ok (rml (by decide) (by decide)) (Nat.le_of_ble_eq_true rfl) rfl rfl [] [] [] rfl rfl rfl rfl rfl rfl (fun _ => rfl) rfl (fun _ => rfl) (fun r3 u hw => ?_)
  obtain ⟨z_3, hw⟩ := hw
  show AW X 1 0 0 (w_X12_isDay (cxG X)) pl 6 [some (.int p0)] [.int r3]
  obtain ⟨z_6, hw⟩ := hw
  exact hret _ _ _ z_6 hw dX12_isDay_6
theorem c_X12_isDay {l : Launch} {g : GG} {pl : Pool} {p0 : Int32} {post : Int32 → Prop} (hw : wp_X12_isDay p0 post) : MI l yX12_isDay cX12_isDay 1 (some .boolean) (rmL 1) g Fz0 [.int p0] (w_X12_isDay g) pl (fun r (_ : Unit) => b01 r ∧ post r) (fun _ => (w_X12_isDay g)) (fun _ => pl) 0 0 := by
  refine mi_b01 ?_
  refine met_z (own := RX12) rfl rfl (Nat.le_of_ble_eq_true rfl) (fun X hg hl C hini hret => ?_)
  subst hg
  subst hl
  exact m_X12_isDay C (fun r pc lo z hp hd => hret r () pc lo (b01_nar z) hp hd) hw
abbrev w_X12_isMinute (g : GG) : va_W := []
set_option maxRecDepth 20000 in
theorem m_X12_isMinute {X : Ctx} (C : Cok X cX12_isMinute 1 RX12 (rmL 1) Fz0) {pl : Pool} {p0 : Int32} {post : Int32 → Prop} (hret : ∀ (r : Int32) (pc : Nat) (lo : List (Option Value)), b01 r → post r → decode cX12_isMinute pc = .ok (.ireturn, 1) → AW X 1 0 0 (w_X12_isMinute (cxG X)) pl pc lo [.int r]) (hw : wp_X12_isMinute p0 post) : AW X 1 0 0 (w_X12_isMinute (cxG X)) pl 0 [some (.int p0)] [] := by
  replace hw : wp_X12_within p0 0 119 (fun r4 => b01 r4 ∧ (post r4)) := hw
  refine a_iload_n (pc := 0) (i := 0) C dX12_isMinute_0 rfl rfl ?_
  refine a_iconst (pc := 1) C dX12_isMinute_1 kc_0 ?_
  refine a_bipush (pc := 2) C dX12_isMinute_2 kb_119 ?_
  refine a_callSi (pc := 4) (As := [.int p0, .int 0, .int 119]) (st := []) (ws' := (fun _ => (w_X12_isMinute (cxG X)))) C (c_X12_within hw) dX12_isMinute_4 mth_X12_within tml_X12_289 (fun _ _ h => trivial) Fz0_ok (rml (by decide) (by decide)) (Nat.le_of_ble_eq_true rfl) rfl rfl [] [] [] rfl rfl rfl rfl rfl rfl (fun _ => rfl) rfl (fun _ => rfl) (fun r4 u hw => ?_)
  obtain ⟨z_4, hw⟩ := hw
  show AW X 1 0 0 (w_X12_isMinute (cxG X)) pl 7 [some (.int p0)] [.int r4]
  obtain ⟨z_7, hw⟩ := hw
  exact hret _ _ _ z_7 hw dX12_isMinute_7
theorem c_X12_isMinute {l : Launch} {g : GG} {pl : Pool} {p0 : Int32} {post : Int32 → Prop} (hw : wp_X12_isMinute p0 post) : MI l yX12_isMinute cX12_isMinute 1 (some .boolean) (rmL 1) g Fz0 [.int p0] (w_X12_isMinute g) pl (fun r (_ : Unit) => b01 r ∧ post r) (fun _ => (w_X12_isMinute g)) (fun _ => pl) 0 0 := by
  refine mi_b01 ?_
  refine met_z (own := RX12) rfl rfl (Nat.le_of_ble_eq_true rfl) (fun X hg hl C hini hret => ?_)
  subst hg
  subst hl
  exact m_X12_isMinute C (fun r pc lo z hp hd => hret r () pc lo (b01_nar z) hp hd) hw
abbrev w_X12_isSquare (g : GG) : va_W := []
set_option maxRecDepth 20000 in
theorem m_X12_isSquare {X : Ctx} (C : Cok X cX12_isSquare 1 RX12 (rmL 1) Fz0) {pl : Pool} {p0 : Int32} {post : Int32 → Prop} (hret : ∀ (r : Int32) (pc : Nat) (lo : List (Option Value)), b01 r → post r → decode cX12_isSquare pc = .ok (.ireturn, 1) → AW X 1 0 0 (w_X12_isSquare (cxG X)) pl pc lo [.int r]) (hw : wp_X12_isSquare p0 post) : AW X 1 0 0 (w_X12_isSquare (cxG X)) pl 0 [some (.int p0)] [] := by
  replace hw : wp_X12_within p0 0 99 (fun r4 => b01 r4 ∧ (post r4)) := hw
  refine a_iload_n (pc := 0) (i := 0) C dX12_isSquare_0 rfl rfl ?_
  refine a_iconst (pc := 1) C dX12_isSquare_1 kc_0 ?_
  refine a_bipush (pc := 2) C dX12_isSquare_2 kb_99 ?_
  refine a_callSi (pc := 4) (As := [.int p0, .int 0, .int 99]) (st := []) (ws' := (fun _ => (w_X12_isSquare (cxG X)))) C (c_X12_within hw) dX12_isSquare_4 mth_X12_within tml_X12_289 (fun _ _ h => trivial) Fz0_ok (rml (by decide) (by decide)) (Nat.le_of_ble_eq_true rfl) rfl rfl [] [] [] rfl rfl rfl rfl rfl rfl (fun _ => rfl) rfl (fun _ => rfl) (fun r4 u hw => ?_)
  obtain ⟨z_4, hw⟩ := hw
  show AW X 1 0 0 (w_X12_isSquare (cxG X)) pl 7 [some (.int p0)] [.int r4]
  obtain ⟨z_7, hw⟩ := hw
  exact hret _ _ _ z_7 hw dX12_isSquare_7
theorem c_X12_isSquare {l : Launch} {g : GG} {pl : Pool} {p0 : Int32} {post : Int32 → Prop} (hw : wp_X12_isSquare p0 post) : MI l yX12_isSquare cX12_isSquare 1 (some .boolean) (rmL 1) g Fz0 [.int p0] (w_X12_isSquare g) pl (fun r (_ : Unit) => b01 r ∧ post r) (fun _ => (w_X12_isSquare g)) (fun _ => pl) 0 0 := by
  refine mi_b01 ?_
  refine met_z (own := RX12) rfl rfl (Nat.le_of_ble_eq_true rfl) (fun X hg hl C hini hret => ?_)
  subst hg
  subst hl
  exact m_X12_isSquare C (fun r pc lo z hp hd => hret r () pc lo (b01_nar z) hp hd) hw
abbrev w_X12_sunLine (g : GG) (A_t A_t_towns : Nat) (U_t_thrown U_t_tape U_t_taped U_t_size U_t_sort U_t_place U_t_value U_t_at U_t_fault U_t_words U_t_op U_t_arg U_t_codes U_t_facts U_t_pile U_t_shadeDay U_t_sun U_t_isShut U_t_sunny U_t_cost U_t_leastCost U_t_leastEnd U_t_wayOf U_t_wayMany U_t_whereAt U_t_reach U_t_likely U_t_crowdAt U_t_crowdBy U_t_crowdRounds U_t_bestSquare U_t_bestBy U_t_spotsMany U_t_spotAt U_t_followed U_t_followOf U_t_toldMany U_t_toldOf U_t_stepsTo U_t_reachOne U_t_isMarked U_t_markOf : Value) (t_towns : Nat → Int32) : va_W := [(A_t, ob 12 [U_t_thrown, U_t_tape, U_t_taped, U_t_size, U_t_sort, U_t_place, U_t_value, U_t_at, U_t_fault, U_t_words, .ref A_t_towns, U_t_op, U_t_arg, U_t_codes, U_t_facts, U_t_pile, U_t_shadeDay, U_t_sun, U_t_isShut, U_t_sunny, U_t_cost, U_t_leastCost, U_t_leastEnd, U_t_wayOf, U_t_wayMany, U_t_whereAt, U_t_reach, U_t_likely, U_t_crowdAt, U_t_crowdBy, U_t_crowdRounds, U_t_bestSquare, U_t_bestBy, U_t_spotsMany, U_t_spotAt, U_t_followed, U_t_followOf, U_t_toldMany, U_t_toldOf, U_t_stepsTo, U_t_reachOne, U_t_isMarked, U_t_markOf]), (A_t_towns, aI g 2640 t_towns)]
set_option maxRecDepth 20000 in
theorem m_X12_sunLine_L5 {X : Ctx} (C : Cok X cX12_sunLine 6 RX12 (rmL 0) Fz0) {pl : Pool} {A_t A_t_towns : Nat} {U_t_thrown U_t_tape U_t_taped U_t_size U_t_sort U_t_place U_t_value U_t_at U_t_fault U_t_words U_t_op U_t_arg U_t_codes U_t_facts U_t_pile U_t_shadeDay U_t_sun U_t_isShut U_t_sunny U_t_cost U_t_leastCost U_t_leastEnd U_t_wayOf U_t_wayMany U_t_whereAt U_t_reach U_t_likely U_t_crowdAt U_t_crowdBy U_t_crowdRounds U_t_bestSquare U_t_bestBy U_t_spotsMany U_t_spotAt U_t_followed U_t_followOf U_t_toldMany U_t_toldOf U_t_stepsTo U_t_reachOne U_t_isMarked U_t_markOf : Value} {t_towns : Nat → Int32} {post : Int32 → Prop} (hret : ∀ (r : Int32) (pc : Nat) (lo : List (Option Value)), post r → decode cX12_sunLine pc = .ok (.ireturn, 1) → AW X 6 0 0 (w_X12_sunLine (cxG X) A_t A_t_towns U_t_thrown U_t_tape U_t_taped U_t_size U_t_sort U_t_place U_t_value U_t_at U_t_fault U_t_words U_t_op U_t_arg U_t_codes U_t_facts U_t_pile U_t_shadeDay U_t_sun U_t_isShut U_t_sunny U_t_cost U_t_leastCost U_t_leastEnd U_t_wayOf U_t_wayMany U_t_whereAt U_t_reach U_t_likely U_t_crowdAt U_t_crowdBy U_t_crowdRounds U_t_bestSquare U_t_bestBy U_t_spotsMany U_t_spotAt U_t_followed U_t_followOf U_t_toldMany U_t_toldOf U_t_stepsTo U_t_reachOne U_t_isMarked U_t_markOf t_towns) pl pc lo [.int r]) {x_65 : Int32 → Prop} (hx_65 : ∀ (l3 : Int32) , x_65 l3 → AW X 6 0 0 (w_X12_sunLine (cxG X) A_t A_t_towns U_t_thrown U_t_tape U_t_taped U_t_size U_t_sort U_t_place U_t_value U_t_at U_t_fault U_t_words U_t_op U_t_arg U_t_codes U_t_facts U_t_pile U_t_shadeDay U_t_sun U_t_isShut U_t_sunny U_t_cost U_t_leastCost U_t_leastEnd U_t_wayOf U_t_wayMany U_t_whereAt U_t_reach U_t_likely U_t_crowdAt U_t_crowdBy U_t_crowdRounds U_t_bestSquare U_t_bestBy U_t_spotsMany U_t_spotAt U_t_followed U_t_followOf U_t_toldMany U_t_toldOf U_t_stepsTo U_t_reachOne U_t_isMarked U_t_markOf t_towns) pl 65 [none, none, none, some (.int l3), none, none] []) : ∀ (n5 : Nat) (l1 : Int32) (l2 : Int32) (l3 : Int32) (l4 : Int32) , lp (wp_X12_sunLine_L5 x_65 t_towns post) n5 (l1, l2, l3, l4) → AW X 6 0 0 (w_X12_sunLine (cxG X) A_t A_t_towns U_t_thrown U_t_tape U_t_taped U_t_size U_t_sort U_t_place U_t_value U_t_at U_t_fault U_t_words U_t_op U_t_arg U_t_codes U_t_facts U_t_pile U_t_shadeDay U_t_sun U_t_isShut U_t_sunny U_t_cost U_t_leastCost U_t_leastEnd U_t_wayOf U_t_wayMany U_t_whereAt U_t_reach U_t_likely U_t_crowdAt U_t_crowdBy U_t_crowdRounds U_t_bestSquare U_t_bestBy U_t_spotsMany U_t_spotAt U_t_followed U_t_followOf U_t_toldMany U_t_toldOf U_t_stepsTo U_t_reachOne U_t_isMarked U_t_markOf t_towns) pl 5 [some (.ref A_t), some (.int l1), some (.int l2), some (.int l3), some (.int l4), none] [] := by
  intro n5
  induction n5 with
  | zero => exact fun _ _ _ _ hw => hw.elim
  | succ n5 hkb =>
    intro l1 l2 l3 l4 hw
    replace hw : wp_X12_sunLine_L5 x_65 t_towns post (lp (wp_X12_sunLine_L5 x_65 t_towns post) n5) (l1, l2, l3, l4) := hw
    generalize lp (wp_X12_sunLine_L5 x_65 t_towns post) n5 = kb at hw hkb
    refine a_iload (pc := 5) (i := 4) C dX12_sunLine_5 rfl ?_
    refine a_aload_n (pc := 7) (i := 0) C dX12_sunLine_7 rfl rfl ?_
    refine a_get (pc := 8) C fl_X12_97 dX12_sunLine_8 0 rfl rfl ?_
    refine a_sipush (pc := 11) C dX12_sunLine_11 ks_261 ?_
    obtain ⟨i_14, hw⟩ := hw
    refine a_iald (pc := 14) C dX12_sunLine_14 1 rfl i_14 ?_
    refine a_icmp_ge (pc := 15) (tgt := 65) C dX12_sunLine_15 (by decide) (fun c_15 => ?_) (fun c_15 => ?_)
    · replace hw := hw.1 c_15
      refine a_msk [false, false, false, true, false, true] rfl ?_
      exact hx_65 _ hw
    · replace hw := hw.2 c_15
      refine a_sipush (pc := 18) C dX12_sunLine_18 ks_262 ?_
      refine a_iconst (pc := 21) C dX12_sunLine_21 kc_5 ?_
      refine a_iload (pc := 22) (i := 4) C dX12_sunLine_22 rfl ?_
      refine a_imul (pc := 24) C dX12_sunLine_24 ?_
      refine a_iadd (pc := 25) C dX12_sunLine_25 ?_
      refine a_topi (fun x26 e_x26 => ?_)
      replace hw := hw x26 e_x26
      refine s_istore (pc := 26) (i := 5) (lo' := [some (.ref A_t), some (.int l1), some (.int l2), some (.int l3), some (.int l4), some (.int x26)]) C dX12_sunLine_26 (by decide) rfl rfl ?_
      refine a_aload_n (pc := 28) (i := 0) C dX12_sunLine_28 rfl rfl ?_
      refine a_get (pc := 29) C fl_X12_97 dX12_sunLine_29 0 rfl rfl ?_
      refine a_iload (pc := 32) (i := 5) C dX12_sunLine_32 rfl ?_
      obtain ⟨i_34, hw⟩ := hw
      refine a_iald (pc := 34) C dX12_sunLine_34 1 rfl i_34 ?_
      refine a_iload_n (pc := 35) (i := 1) C dX12_sunLine_35 rfl rfl ?_
      refine a_icmp_ne (pc := 36) (tgt := 57) C dX12_sunLine_36 (by decide) (fun c_36 => ?_) (fun c_36 => ?_)
      · replace hw := hw.1 c_36
        refine a_iload_n (pc := 57) (i := 3) C dX12_sunLine_57 rfl rfl ?_
        refine s_istore_n (pc := 58) (i := 3) (lo' := [some (.ref A_t), some (.int l1), some (.int l2), some (.int l3), some (.int l4), some (.int x26)]) C dX12_sunLine_58 rfl (by decide) rfl rfl ?_
        refine a_inc (pc := 59) (i := 4) C (fun y => [some (.ref A_t), some (.int l1), some (.int l2), some (.int l3), some (.int y), some (.int x26)]) dX12_sunLine_59 rfl kc_1 (by decide) rfl (fun _ => rfl) (fun y59 e_y59 => ?_)
        replace hw := hw y59 e_y59
        refine a_goto (pc := 62) (tgt := 5) C dX12_sunLine_62 (by decide) ?_
        refine a_msk [true, true, true, true, true, false] rfl ?_
        exact hkb _ _ _ _ hw
      · replace hw := hw.2 c_36
        refine a_aload_n (pc := 39) (i := 0) C dX12_sunLine_39 rfl rfl ?_
        refine a_get (pc := 40) C fl_X12_97 dX12_sunLine_40 0 rfl rfl ?_
        refine a_iload (pc := 43) (i := 5) C dX12_sunLine_43 rfl ?_
        refine a_iconst (pc := 45) C dX12_sunLine_45 kc_1 ?_
        refine a_iadd (pc := 46) C dX12_sunLine_46 ?_
        refine a_topi (fun x47 e_x47 => ?_)
        replace hw := hw x47 e_x47
        obtain ⟨i_47, hw⟩ := hw
        refine a_iald (pc := 47) C dX12_sunLine_47 1 rfl i_47 ?_
        refine a_iload_n (pc := 48) (i := 2) C dX12_sunLine_48 rfl rfl ?_
        refine a_icmp_gt (pc := 49) (tgt := 57) C dX12_sunLine_49 (by decide) (fun c_49 => ?_) (fun c_49 => ?_)
        · replace hw := hw.1 c_49
          refine a_iload_n (pc := 57) (i := 3) C dX12_sunLine_57 rfl rfl ?_
          refine s_istore_n (pc := 58) (i := 3) (lo' := [some (.ref A_t), some (.int l1), some (.int l2), some (.int l3), some (.int l4), some (.int x26)]) C dX12_sunLine_58 rfl (by decide) rfl rfl ?_
          refine a_inc (pc := 59) (i := 4) C (fun y => [some (.ref A_t), some (.int l1), some (.int l2), some (.int l3), some (.int y), some (.int x26)]) dX12_sunLine_59 rfl kc_1 (by decide) rfl (fun _ => rfl) (fun y59 e_y59 => ?_)
          replace hw := hw y59 e_y59
          refine a_goto (pc := 62) (tgt := 5) C dX12_sunLine_62 (by decide) ?_
          refine a_msk [true, true, true, true, true, false] rfl ?_
          exact hkb _ _ _ _ hw
        · replace hw := hw.2 c_49
          refine a_iload (pc := 52) (i := 5) C dX12_sunLine_52 rfl ?_
          refine a_goto (pc := 54) (tgt := 58) C dX12_sunLine_54 (by decide) ?_
          refine s_istore_n (pc := 58) (i := 3) (lo' := [some (.ref A_t), some (.int l1), some (.int l2), some (.int x26), some (.int l4), some (.int x26)]) C dX12_sunLine_58 rfl (by decide) rfl rfl ?_
          refine a_inc (pc := 59) (i := 4) C (fun y => [some (.ref A_t), some (.int l1), some (.int l2), some (.int x26), some (.int y), some (.int x26)]) dX12_sunLine_59 rfl kc_1 (by decide) rfl (fun _ => rfl) (fun y59 e_y59 => ?_)
          replace hw := hw y59 e_y59
          refine a_goto (pc := 62) (tgt := 5) C dX12_sunLine_62 (by decide) ?_
          refine a_msk [true, true, true, true, true, false] rfl ?_
          exact hkb _ _ _ _ hw
set_option maxRecDepth 20000 in
theorem m_X12_sunLine {X : Ctx} (C : Cok X cX12_sunLine 6 RX12 (rmL 0) Fz0) {pl : Pool} {A_t A_t_towns : Nat} {U_t_thrown U_t_tape U_t_taped U_t_size U_t_sort U_t_place U_t_value U_t_at U_t_fault U_t_words U_t_op U_t_arg U_t_codes U_t_facts U_t_pile U_t_shadeDay U_t_sun U_t_isShut U_t_sunny U_t_cost U_t_leastCost U_t_leastEnd U_t_wayOf U_t_wayMany U_t_whereAt U_t_reach U_t_likely U_t_crowdAt U_t_crowdBy U_t_crowdRounds U_t_bestSquare U_t_bestBy U_t_spotsMany U_t_spotAt U_t_followed U_t_followOf U_t_toldMany U_t_toldOf U_t_stepsTo U_t_reachOne U_t_isMarked U_t_markOf : Value} {t_towns : Nat → Int32} {p1 : Int32} {p2 : Int32} {post : Int32 → Prop} (hret : ∀ (r : Int32) (pc : Nat) (lo : List (Option Value)), post r → decode cX12_sunLine pc = .ok (.ireturn, 1) → AW X 6 0 0 (w_X12_sunLine (cxG X) A_t A_t_towns U_t_thrown U_t_tape U_t_taped U_t_size U_t_sort U_t_place U_t_value U_t_at U_t_fault U_t_words U_t_op U_t_arg U_t_codes U_t_facts U_t_pile U_t_shadeDay U_t_sun U_t_isShut U_t_sunny U_t_cost U_t_leastCost U_t_leastEnd U_t_wayOf U_t_wayMany U_t_whereAt U_t_reach U_t_likely U_t_crowdAt U_t_crowdBy U_t_crowdRounds U_t_bestSquare U_t_bestBy U_t_spotsMany U_t_spotAt U_t_followed U_t_followOf U_t_toldMany U_t_toldOf U_t_stepsTo U_t_reachOne U_t_isMarked U_t_markOf t_towns) pl pc lo [.int r]) (hw : wp_X12_sunLine t_towns p1 p2 post) : AW X 6 0 0 (w_X12_sunLine (cxG X) A_t A_t_towns U_t_thrown U_t_tape U_t_taped U_t_size U_t_sort U_t_place U_t_value U_t_at U_t_fault U_t_words U_t_op U_t_arg U_t_codes U_t_facts U_t_pile U_t_shadeDay U_t_sun U_t_isShut U_t_sunny U_t_cost U_t_leastCost U_t_leastEnd U_t_wayOf U_t_wayMany U_t_whereAt U_t_reach U_t_likely U_t_crowdAt U_t_crowdBy U_t_crowdRounds U_t_bestSquare U_t_bestBy U_t_spotsMany U_t_spotAt U_t_followed U_t_followOf U_t_toldMany U_t_toldOf U_t_stepsTo U_t_reachOne U_t_isMarked U_t_markOf t_towns) pl 0 [some (.ref A_t), some (.int p1), some (.int p2), none, none, none] [] := by
  refine a_iconst (pc := 0) C dX12_sunLine_0 kc_m1 ?_
  refine s_istore_n (pc := 1) (i := 3) (lo' := [some (.ref A_t), some (.int p1), some (.int p2), some (.int (-1)), none, none]) C dX12_sunLine_1 rfl (by decide) rfl rfl ?_
  refine a_iconst (pc := 2) C dX12_sunLine_2 kc_0 ?_
  refine s_istore (pc := 3) (i := 4) (lo' := [some (.ref A_t), some (.int p1), some (.int p2), some (.int (-1)), some (.int 0), none]) C dX12_sunLine_3 (by decide) rfl rfl ?_
  obtain ⟨n5, hw⟩ := hw
  refine m_X12_sunLine_L5 C hret (fun l3 hw => ?_) n5 _ _ _ _ hw
  refine a_iload_n (pc := 65) (i := 3) C dX12_sunLine_65 rfl rfl ?_
  exact hret _ _ _ hw dX12_sunLine_66
theorem c_X12_sunLine {l : Launch} {g : GG} {pl : Pool} (A_t A_t_towns : Nat) (U_t_thrown U_t_tape U_t_taped U_t_size U_t_sort U_t_place U_t_value U_t_at U_t_fault U_t_words U_t_op U_t_arg U_t_codes U_t_facts U_t_pile U_t_shadeDay U_t_sun U_t_isShut U_t_sunny U_t_cost U_t_leastCost U_t_leastEnd U_t_wayOf U_t_wayMany U_t_whereAt U_t_reach U_t_likely U_t_crowdAt U_t_crowdBy U_t_crowdRounds U_t_bestSquare U_t_bestBy U_t_spotsMany U_t_spotAt U_t_followed U_t_followOf U_t_toldMany U_t_toldOf U_t_stepsTo U_t_reachOne U_t_isMarked U_t_markOf : Value) {t_towns : Nat → Int32} {p1 : Int32} {p2 : Int32} {post : Int32 → Prop} (hw : wp_X12_sunLine t_towns p1 p2 post) : MI l yX12_sunLine cX12_sunLine 6 (some .int) (rmL 0) g Fz0 [.ref A_t, .int p1, .int p2] (w_X12_sunLine g A_t A_t_towns U_t_thrown U_t_tape U_t_taped U_t_size U_t_sort U_t_place U_t_value U_t_at U_t_fault U_t_words U_t_op U_t_arg U_t_codes U_t_facts U_t_pile U_t_shadeDay U_t_sun U_t_isShut U_t_sunny U_t_cost U_t_leastCost U_t_leastEnd U_t_wayOf U_t_wayMany U_t_whereAt U_t_reach U_t_likely U_t_crowdAt U_t_crowdBy U_t_crowdRounds U_t_bestSquare U_t_bestBy U_t_spotsMany U_t_spotAt U_t_followed U_t_followOf U_t_toldMany U_t_toldOf U_t_stepsTo U_t_reachOne U_t_isMarked U_t_markOf t_towns) pl (fun r (_ : Unit) => post r) (fun _ => (w_X12_sunLine g A_t A_t_towns U_t_thrown U_t_tape U_t_taped U_t_size U_t_sort U_t_place U_t_value U_t_at U_t_fault U_t_words U_t_op U_t_arg U_t_codes U_t_facts U_t_pile U_t_shadeDay U_t_sun U_t_isShut U_t_sunny U_t_cost U_t_leastCost U_t_leastEnd U_t_wayOf U_t_wayMany U_t_whereAt U_t_reach U_t_likely U_t_crowdAt U_t_crowdBy U_t_crowdRounds U_t_bestSquare U_t_bestBy U_t_spotsMany U_t_spotAt U_t_followed U_t_followOf U_t_toldMany U_t_toldOf U_t_stepsTo U_t_reachOne U_t_isMarked U_t_markOf t_towns)) (fun _ => pl) 0 0 := by
  refine met_i (own := RX12) rfl rfl (Nat.le_of_ble_eq_true rfl) (fun X hg hl C hini hret => ?_)
  subst hg
  subst hl
  exact m_X12_sunLine C (fun r pc lo hp hd => hret r () pc lo hp hd) hw
abbrev w_X12_isBehind (g : GG) (A_t A_t_towns : Nat) (U_t_thrown U_t_tape U_t_taped U_t_size U_t_sort U_t_place U_t_value U_t_at U_t_fault U_t_words U_t_op U_t_arg U_t_codes U_t_facts U_t_pile U_t_shadeDay U_t_sun U_t_isShut U_t_sunny U_t_cost U_t_leastCost U_t_leastEnd U_t_wayOf U_t_wayMany U_t_whereAt U_t_reach U_t_likely U_t_crowdAt U_t_crowdBy U_t_crowdRounds U_t_bestSquare U_t_bestBy U_t_spotsMany U_t_spotAt U_t_followed U_t_followOf U_t_toldMany U_t_toldOf U_t_stepsTo U_t_reachOne U_t_isMarked U_t_markOf : Value) (t_towns : Nat → Int32) : va_W := [(A_t, ob 12 [U_t_thrown, U_t_tape, U_t_taped, U_t_size, U_t_sort, U_t_place, U_t_value, U_t_at, U_t_fault, U_t_words, .ref A_t_towns, U_t_op, U_t_arg, U_t_codes, U_t_facts, U_t_pile, U_t_shadeDay, U_t_sun, U_t_isShut, U_t_sunny, U_t_cost, U_t_leastCost, U_t_leastEnd, U_t_wayOf, U_t_wayMany, U_t_whereAt, U_t_reach, U_t_likely, U_t_crowdAt, U_t_crowdBy, U_t_crowdRounds, U_t_bestSquare, U_t_bestBy, U_t_spotsMany, U_t_spotAt, U_t_followed, U_t_followOf, U_t_toldMany, U_t_toldOf, U_t_stepsTo, U_t_reachOne, U_t_isMarked, U_t_markOf]), (A_t_towns, aI g 2640 t_towns)]
set_option maxRecDepth 20000 in
theorem m_X12_isBehind_L71 {X : Ctx} (C : Cok X cX12_isBehind 10 RX12 (rmL 1) Fz0) {pl : Pool} {A_t A_t_towns : Nat} {U_t_thrown U_t_tape U_t_taped U_t_size U_t_sort U_t_place U_t_value U_t_at U_t_fault U_t_words U_t_op U_t_arg U_t_codes U_t_facts U_t_pile U_t_shadeDay U_t_sun U_t_isShut U_t_sunny U_t_cost U_t_leastCost U_t_leastEnd U_t_wayOf U_t_wayMany U_t_whereAt U_t_reach U_t_likely U_t_crowdAt U_t_crowdBy U_t_crowdRounds U_t_bestSquare U_t_bestBy U_t_spotsMany U_t_spotAt U_t_followed U_t_followOf U_t_toldMany U_t_toldOf U_t_stepsTo U_t_reachOne U_t_isMarked U_t_markOf : Value} {t_towns : Nat → Int32} {post : Int32 → Prop} (hret : ∀ (r : Int32) (pc : Nat) (lo : List (Option Value)), b01 r → post r → decode cX12_isBehind pc = .ok (.ireturn, 1) → AW X 10 0 0 (w_X12_isBehind (cxG X) A_t A_t_towns U_t_thrown U_t_tape U_t_taped U_t_size U_t_sort U_t_place U_t_value U_t_at U_t_fault U_t_words U_t_op U_t_arg U_t_codes U_t_facts U_t_pile U_t_shadeDay U_t_sun U_t_isShut U_t_sunny U_t_cost U_t_leastCost U_t_leastEnd U_t_wayOf U_t_wayMany U_t_whereAt U_t_reach U_t_likely U_t_crowdAt U_t_crowdBy U_t_crowdRounds U_t_bestSquare U_t_bestBy U_t_spotsMany U_t_spotAt U_t_followed U_t_followOf U_t_toldMany U_t_toldOf U_t_stepsTo U_t_reachOne U_t_isMarked U_t_markOf t_towns) pl pc lo [.int r]) {x_181 : Int32 → Prop} (hx_181 : ∀ (l6 : Int32) , x_181 l6 → AW X 10 0 0 (w_X12_isBehind (cxG X) A_t A_t_towns U_t_thrown U_t_tape U_t_taped U_t_size U_t_sort U_t_place U_t_value U_t_at U_t_fault U_t_words U_t_op U_t_arg U_t_codes U_t_facts U_t_pile U_t_shadeDay U_t_sun U_t_isShut U_t_sunny U_t_cost U_t_leastCost U_t_leastEnd U_t_wayOf U_t_wayMany U_t_whereAt U_t_reach U_t_likely U_t_crowdAt U_t_crowdBy U_t_crowdRounds U_t_bestSquare U_t_bestBy U_t_spotsMany U_t_spotAt U_t_followed U_t_followOf U_t_toldMany U_t_toldOf U_t_stepsTo U_t_reachOne U_t_isMarked U_t_markOf t_towns) pl 181 [none, none, none, none, none, none, some (.int l6), none, none, none] []) : ∀ (n71 : Nat) (l1 : Int32) (l2 : Int32) (l4 : Int32) (l5 : Int32) (l6 : Int32) (l7 : Int32) , lp (wp_X12_isBehind_L71 x_181 t_towns post) n71 (l1, l2, l4, l5, l6, l7) → AW X 10 0 0 (w_X12_isBehind (cxG X) A_t A_t_towns U_t_thrown U_t_tape U_t_taped U_t_size U_t_sort U_t_place U_t_value U_t_at U_t_fault U_t_words U_t_op U_t_arg U_t_codes U_t_facts U_t_pile U_t_shadeDay U_t_sun U_t_isShut U_t_sunny U_t_cost U_t_leastCost U_t_leastEnd U_t_wayOf U_t_wayMany U_t_whereAt U_t_reach U_t_likely U_t_crowdAt U_t_crowdBy U_t_crowdRounds U_t_bestSquare U_t_bestBy U_t_spotsMany U_t_spotAt U_t_followed U_t_followOf U_t_toldMany U_t_toldOf U_t_stepsTo U_t_reachOne U_t_isMarked U_t_markOf t_towns) pl 71 [some (.ref A_t), some (.int l1), some (.int l2), none, some (.int l4), some (.int l5), some (.int l6), some (.int l7), none, none] [] := by
  intro n71
  induction n71 with
  | zero => exact fun _ _ _ _ _ _ hw => hw.elim
  | succ n71 hkb =>
    intro l1 l2 l4 l5 l6 l7 hw
    replace hw : wp_X12_isBehind_L71 x_181 t_towns post (lp (wp_X12_isBehind_L71 x_181 t_towns post) n71) (l1, l2, l4, l5, l6, l7) := hw
    generalize lp (wp_X12_isBehind_L71 x_181 t_towns post) n71 = kb at hw hkb
    refine a_iload (pc := 71) (i := 7) C dX12_isBehind_71 rfl ?_
    refine a_bipush (pc := 73) C dX12_isBehind_73 kb_10 ?_
    refine a_icmp_ge (pc := 75) (tgt := 181) C dX12_isBehind_75 (by decide) (fun c_75 => ?_) (fun c_75 => ?_)
    · replace hw := hw.1 c_75
      refine a_msk [false, false, false, true, false, false, true, false, true, true] rfl ?_
      exact hx_181 _ hw
    · replace hw := hw.2 c_75
      refine a_iload (pc := 78) (i := 6) C dX12_isBehind_78 rfl ?_
      refine a_if_ne (pc := 80) (tgt := 181) C dX12_isBehind_80 (by decide) (fun c_80 => ?_) (fun c_80 => ?_)
      · replace hw := hw.1 c_80
        refine a_msk [false, false, false, true, false, false, true, false, true, true] rfl ?_
        exact hx_181 _ hw
      · replace hw := hw.2 c_80
        refine a_iload_n (pc := 83) (i := 1) C dX12_isBehind_83 rfl rfl ?_
        refine a_bipush (pc := 84) C dX12_isBehind_84 kb_10 ?_
        refine a_jrem (pc := 86) C dX12_isBehind_86 (by decide) ?_
        refine a_iload (pc := 87) (i := 7) C dX12_isBehind_87 rfl ?_
        refine a_iload (pc := 89) (i := 5) C dX12_isBehind_89 rfl ?_
        refine a_imul (pc := 91) C dX12_isBehind_91 ?_
        refine a_iadd (pc := 92) C dX12_isBehind_92 ?_
        refine a_topi (fun x93 e_x93 => ?_)
        replace hw := hw x93 e_x93
        refine s_istore (pc := 93) (i := 8) (lo' := [some (.ref A_t), some (.int l1), some (.int l2), none, some (.int l4), some (.int l5), some (.int l6), some (.int l7), some (.int x93), none]) C dX12_isBehind_93 (by decide) rfl rfl ?_
        refine a_iload_n (pc := 95) (i := 1) C dX12_isBehind_95 rfl rfl ?_
        refine a_bipush (pc := 96) C dX12_isBehind_96 kb_10 ?_
        refine a_idiv (pc := 98) C dX12_isBehind_98 (by decide) ?_
        refine a_iload (pc := 99) (i := 7) C dX12_isBehind_99 rfl ?_
        refine a_iload (pc := 101) (i := 4) C dX12_isBehind_101 rfl ?_
        refine a_imul (pc := 103) C dX12_isBehind_103 ?_
        refine a_iadd (pc := 104) C dX12_isBehind_104 ?_
        refine a_topi (fun x105 e_x105 => ?_)
        replace hw := hw x105 e_x105
        refine s_istore (pc := 105) (i := 9) (lo' := [some (.ref A_t), some (.int l1), some (.int l2), none, some (.int l4), some (.int l5), some (.int l6), some (.int l7), some (.int x93), some (.int x105)]) C dX12_isBehind_105 (by decide) rfl rfl ?_
        refine a_iload (pc := 107) (i := 8) C dX12_isBehind_107 rfl ?_
        refine a_iconst (pc := 109) C dX12_isBehind_109 kc_0 ?_
        refine a_bipush (pc := 110) C dX12_isBehind_110 kb_9 ?_
        refine a_callSi (pc := 112) (As := [.int x93, .int 0, .int 9]) (st := []) (ws' := (fun _ => (w_X12_isBehind (cxG X) A_t A_t_towns U_t_thrown U_t_tape U_t_taped U_t_size U_t_sort U_t_place U_t_value U_t_at U_t_fault U_t_words U_t_op U_t_arg U_t_codes U_t_facts U_t_pile U_t_shadeDay U_t_sun U_t_isShut U_t_sunny U_t_cost U_t_leastCost U_t_leastEnd U_t_wayOf U_t_wayMany U_t_whereAt U_t_reach U_t_likely U_t_crowdAt U_t_crowdBy U_t_crowdRounds U_t_bestSquare U_t_bestBy U_t_spotsMany U_t_spotAt U_t_followed U_t_followOf U_t_toldMany U_t_toldOf U_t_stepsTo U_t_reachOne U_t_isMarked U_t_markOf t_towns))) C (c_X12_within hw) dX12_isBehind_112 mth_X12_within tml_X12_289 (fun _ _ h => trivial) Fz0_ok (rml (by decide) (by decide)) (Nat.le_of_ble_eq_true rfl) rfl rfl [] [0, 1] [0, 1] rfl rfl rfl rfl rfl rfl (fun _ => rfl) rfl (fun _ => rfl) (fun r112 u hw => ?_)
        obtain ⟨z_112, hw⟩ := hw
        show AW X 10 0 0 (w_X12_isBehind (cxG X) A_t A_t_towns U_t_thrown U_t_tape U_t_taped U_t_size U_t_sort U_t_place U_t_value U_t_at U_t_fault U_t_words U_t_op U_t_arg U_t_codes U_t_facts U_t_pile U_t_shadeDay U_t_sun U_t_isShut U_t_sunny U_t_cost U_t_leastCost U_t_leastEnd U_t_wayOf U_t_wayMany U_t_whereAt U_t_reach U_t_likely U_t_crowdAt U_t_crowdBy U_t_crowdRounds U_t_bestSquare U_t_bestBy U_t_spotsMany U_t_spotAt U_t_followed U_t_followOf U_t_toldMany U_t_toldOf U_t_stepsTo U_t_reachOne U_t_isMarked U_t_markOf t_towns) pl 115 [some (.ref A_t), some (.int l1), some (.int l2), none, some (.int l4), some (.int l5), some (.int l6), some (.int l7), some (.int x93), some (.int x105)] [.int r112]
        refine a_if_eq (pc := 115) (tgt := 172) C dX12_isBehind_115 (by decide) (fun c_115 => ?_) (fun c_115 => ?_)
        · replace hw := hw.1 c_115
          refine a_iconst (pc := 172) C dX12_isBehind_172 kc_0 ?_
          refine s_istore (pc := 173) (i := 6) (lo' := [some (.ref A_t), some (.int l1), some (.int l2), none, some (.int l4), some (.int l5), some (.int 0), some (.int l7), some (.int x93), some (.int x105)]) C dX12_isBehind_173 (by decide) rfl rfl ?_
          refine a_inc (pc := 175) (i := 7) C (fun y => [some (.ref A_t), some (.int l1), some (.int l2), none, some (.int l4), some (.int l5), some (.int 0), some (.int y), some (.int x93), some (.int x105)]) dX12_isBehind_175 rfl kc_1 (by decide) rfl (fun _ => rfl) (fun y175 e_y175 => ?_)
          replace hw := hw y175 e_y175
          refine a_goto (pc := 178) (tgt := 71) C dX12_isBehind_178 (by decide) ?_
          refine a_msk [true, true, true, true, true, true, true, true, false, false] rfl ?_
          exact hkb _ _ _ _ _ _ hw
        · replace hw := hw.2 c_115
          refine a_iload (pc := 118) (i := 9) C dX12_isBehind_118 rfl ?_
          refine a_iconst (pc := 120) C dX12_isBehind_120 kc_0 ?_
          refine a_bipush (pc := 121) C dX12_isBehind_121 kb_9 ?_
          refine a_callSi (pc := 123) (As := [.int x105, .int 0, .int 9]) (st := []) (ws' := (fun _ => (w_X12_isBehind (cxG X) A_t A_t_towns U_t_thrown U_t_tape U_t_taped U_t_size U_t_sort U_t_place U_t_value U_t_at U_t_fault U_t_words U_t_op U_t_arg U_t_codes U_t_facts U_t_pile U_t_shadeDay U_t_sun U_t_isShut U_t_sunny U_t_cost U_t_leastCost U_t_leastEnd U_t_wayOf U_t_wayMany U_t_whereAt U_t_reach U_t_likely U_t_crowdAt U_t_crowdBy U_t_crowdRounds U_t_bestSquare U_t_bestBy U_t_spotsMany U_t_spotAt U_t_followed U_t_followOf U_t_toldMany U_t_toldOf U_t_stepsTo U_t_reachOne U_t_isMarked U_t_markOf t_towns))) C (c_X12_within hw) dX12_isBehind_123 mth_X12_within tml_X12_289 (fun _ _ h => trivial) Fz0_ok (rml (by decide) (by decide)) (Nat.le_of_ble_eq_true rfl) rfl rfl [] [0, 1] [0, 1] rfl rfl rfl rfl rfl rfl (fun _ => rfl) rfl (fun _ => rfl) (fun r123 u hw => ?_)
          obtain ⟨z_123, hw⟩ := hw
          show AW X 10 0 0 (w_X12_isBehind (cxG X) A_t A_t_towns U_t_thrown U_t_tape U_t_taped U_t_size U_t_sort U_t_place U_t_value U_t_at U_t_fault U_t_words U_t_op U_t_arg U_t_codes U_t_facts U_t_pile U_t_shadeDay U_t_sun U_t_isShut U_t_sunny U_t_cost U_t_leastCost U_t_leastEnd U_t_wayOf U_t_wayMany U_t_whereAt U_t_reach U_t_likely U_t_crowdAt U_t_crowdBy U_t_crowdRounds U_t_bestSquare U_t_bestBy U_t_spotsMany U_t_spotAt U_t_followed U_t_followOf U_t_toldMany U_t_toldOf U_t_stepsTo U_t_reachOne U_t_isMarked U_t_markOf t_towns) pl 126 [some (.ref A_t), some (.int l1), some (.int l2), none, some (.int l4), some (.int l5), some (.int l6), some (.int l7), some (.int x93), some (.int x105)] [.int r123]
          refine a_if_eq (pc := 126) (tgt := 172) C dX12_isBehind_126 (by decide) (fun c_126 => ?_) (fun c_126 => ?_)
          · replace hw := hw.1 c_126
            refine a_iconst (pc := 172) C dX12_isBehind_172 kc_0 ?_
            refine s_istore (pc := 173) (i := 6) (lo' := [some (.ref A_t), some (.int l1), some (.int l2), none, some (.int l4), some (.int l5), some (.int 0), some (.int l7), some (.int x93), some (.int x105)]) C dX12_isBehind_173 (by decide) rfl rfl ?_
            refine a_inc (pc := 175) (i := 7) C (fun y => [some (.ref A_t), some (.int l1), some (.int l2), none, some (.int l4), some (.int l5), some (.int 0), some (.int y), some (.int x93), some (.int x105)]) dX12_isBehind_175 rfl kc_1 (by decide) rfl (fun _ => rfl) (fun y175 e_y175 => ?_)
            replace hw := hw y175 e_y175
            refine a_goto (pc := 178) (tgt := 71) C dX12_isBehind_178 (by decide) ?_
            refine a_msk [true, true, true, true, true, true, true, true, false, false] rfl ?_
            exact hkb _ _ _ _ _ _ hw
          · replace hw := hw.2 c_126
            refine a_aload_n (pc := 129) (i := 0) C dX12_isBehind_129 rfl rfl ?_
            refine a_get (pc := 130) C fl_X12_97 dX12_isBehind_130 0 rfl rfl ?_
            refine a_bipush (pc := 133) C dX12_isBehind_133 kb_100 ?_
            refine a_bipush (pc := 135) C dX12_isBehind_135 kb_10 ?_
            refine a_iload (pc := 137) (i := 9) C dX12_isBehind_137 rfl ?_
            refine a_imul (pc := 139) C dX12_isBehind_139 ?_
            refine a_iadd (pc := 140) C dX12_isBehind_140 ?_
            refine a_iload (pc := 141) (i := 8) C dX12_isBehind_141 rfl ?_
            refine a_iadd (pc := 143) C dX12_isBehind_143 ?_
            refine a_topi (fun x144 e_x144 => ?_)
            replace hw := hw x144 e_x144
            obtain ⟨i_144, hw⟩ := hw
            refine a_iald (pc := 144) C dX12_isBehind_144 1 rfl i_144 ?_
            refine a_aload_n (pc := 145) (i := 0) C dX12_isBehind_145 rfl rfl ?_
            refine a_get (pc := 146) C fl_X12_97 dX12_isBehind_146 0 rfl rfl ?_
            refine a_iload_n (pc := 149) (i := 2) C dX12_isBehind_149 rfl rfl ?_
            refine a_iconst (pc := 150) C dX12_isBehind_150 kc_4 ?_
            refine a_iadd (pc := 151) C dX12_isBehind_151 ?_
            refine a_topi (fun x152 e_x152 => ?_)
            replace hw := hw x152 e_x152
            obtain ⟨i_152, hw⟩ := hw
            refine a_iald (pc := 152) C dX12_isBehind_152 1 rfl i_152 ?_
            refine a_imul (pc := 153) C dX12_isBehind_153 ?_
            refine a_iload (pc := 154) (i := 7) C dX12_isBehind_154 rfl ?_
            refine a_aload_n (pc := 156) (i := 0) C dX12_isBehind_156 rfl rfl ?_
            refine a_get (pc := 157) C fl_X12_97 dX12_isBehind_157 0 rfl rfl ?_
            refine a_iload_n (pc := 160) (i := 2) C dX12_isBehind_160 rfl rfl ?_
            refine a_iconst (pc := 161) C dX12_isBehind_161 kc_3 ?_
            refine a_iadd (pc := 162) C dX12_isBehind_162 ?_
            refine a_topi (fun x163 e_x163 => ?_)
            replace hw := hw x163 e_x163
            obtain ⟨i_163, hw⟩ := hw
            refine a_iald (pc := 163) C dX12_isBehind_163 1 rfl i_163 ?_
            refine a_imul (pc := 164) C dX12_isBehind_164 ?_
            refine a_icmp_le (pc := 165) (tgt := 172) C dX12_isBehind_165 (by decide) (fun c_165 => ?_) (fun c_165 => ?_)
            · replace hw := hw.1 c_165
              refine a_iconst (pc := 172) C dX12_isBehind_172 kc_0 ?_
              refine s_istore (pc := 173) (i := 6) (lo' := [some (.ref A_t), some (.int l1), some (.int l2), none, some (.int l4), some (.int l5), some (.int 0), some (.int l7), some (.int x93), some (.int x105)]) C dX12_isBehind_173 (by decide) rfl rfl ?_
              refine a_inc (pc := 175) (i := 7) C (fun y => [some (.ref A_t), some (.int l1), some (.int l2), none, some (.int l4), some (.int l5), some (.int 0), some (.int y), some (.int x93), some (.int x105)]) dX12_isBehind_175 rfl kc_1 (by decide) rfl (fun _ => rfl) (fun y175 e_y175 => ?_)
              replace hw := hw y175 e_y175
              refine a_goto (pc := 178) (tgt := 71) C dX12_isBehind_178 (by decide) ?_
              refine a_msk [true, true, true, true, true, true, true, true, false, false] rfl ?_
              exact hkb _ _ _ _ _ _ hw
            · replace hw := hw.2 c_165
              refine a_iconst (pc := 168) C dX12_isBehind_168 kc_1 ?_
              refine a_goto (pc := 169) (tgt := 173) C dX12_isBehind_169 (by decide) ?_
              refine s_istore (pc := 173) (i := 6) (lo' := [some (.ref A_t), some (.int l1), some (.int l2), none, some (.int l4), some (.int l5), some (.int 1), some (.int l7), some (.int x93), some (.int x105)]) C dX12_isBehind_173 (by decide) rfl rfl ?_
              refine a_inc (pc := 175) (i := 7) C (fun y => [some (.ref A_t), some (.int l1), some (.int l2), none, some (.int l4), some (.int l5), some (.int 1), some (.int y), some (.int x93), some (.int x105)]) dX12_isBehind_175 rfl kc_1 (by decide) rfl (fun _ => rfl) (fun y175 e_y175 => ?_)
              replace hw := hw y175 e_y175
              refine a_goto (pc := 178) (tgt := 71) C dX12_isBehind_178 (by decide) ?_
              refine a_msk [true, true, true, true, true, true, true, true, false, false] rfl ?_
              exact hkb _ _ _ _ _ _ hw
set_option maxRecDepth 20000 in
theorem m_X12_isBehind_b38 {X : Ctx} (C : Cok X cX12_isBehind 10 RX12 (rmL 1) Fz0) {pl : Pool} {A_t A_t_towns : Nat} {U_t_thrown U_t_tape U_t_taped U_t_size U_t_sort U_t_place U_t_value U_t_at U_t_fault U_t_words U_t_op U_t_arg U_t_codes U_t_facts U_t_pile U_t_shadeDay U_t_sun U_t_isShut U_t_sunny U_t_cost U_t_leastCost U_t_leastEnd U_t_wayOf U_t_wayMany U_t_whereAt U_t_reach U_t_likely U_t_crowdAt U_t_crowdBy U_t_crowdRounds U_t_bestSquare U_t_bestBy U_t_spotsMany U_t_spotAt U_t_followed U_t_followOf U_t_toldMany U_t_toldOf U_t_stepsTo U_t_reachOne U_t_isMarked U_t_markOf : Value} {t_towns : Nat → Int32} {post : Int32 → Prop} (hret : ∀ (r : Int32) (pc : Nat) (lo : List (Option Value)), b01 r → post r → decode cX12_isBehind pc = .ok (.ireturn, 1) → AW X 10 0 0 (w_X12_isBehind (cxG X) A_t A_t_towns U_t_thrown U_t_tape U_t_taped U_t_size U_t_sort U_t_place U_t_value U_t_at U_t_fault U_t_words U_t_op U_t_arg U_t_codes U_t_facts U_t_pile U_t_shadeDay U_t_sun U_t_isShut U_t_sunny U_t_cost U_t_leastCost U_t_leastEnd U_t_wayOf U_t_wayMany U_t_whereAt U_t_reach U_t_likely U_t_crowdAt U_t_crowdBy U_t_crowdRounds U_t_bestSquare U_t_bestBy U_t_spotsMany U_t_spotAt U_t_followed U_t_followOf U_t_toldMany U_t_toldOf U_t_stepsTo U_t_reachOne U_t_isMarked U_t_markOf t_towns) pl pc lo [.int r]) {l1 : Int32} {l2 : Int32} {l3 : Int32} {s0 : Int32} (hw : wp_X12_isBehind_b38  t_towns post l1 l2 l3 s0) : AW X 10 0 0 (w_X12_isBehind (cxG X) A_t A_t_towns U_t_thrown U_t_tape U_t_taped U_t_size U_t_sort U_t_place U_t_value U_t_at U_t_fault U_t_words U_t_op U_t_arg U_t_codes U_t_facts U_t_pile U_t_shadeDay U_t_sun U_t_isShut U_t_sunny U_t_cost U_t_leastCost U_t_leastEnd U_t_wayOf U_t_wayMany U_t_whereAt U_t_reach U_t_likely U_t_crowdAt U_t_crowdBy U_t_crowdRounds U_t_bestSquare U_t_bestBy U_t_spotsMany U_t_spotAt U_t_followed U_t_followOf U_t_toldMany U_t_toldOf U_t_stepsTo U_t_reachOne U_t_isMarked U_t_markOf t_towns) pl 38 [some (.ref A_t), some (.int l1), some (.int l2), some (.int l3), none, none, none, none, none, none] [.int s0] := by
  replace hw : wp_X12_within l3 1 3 (fun r43 => (r43 = 0 → ((l3 ≤ 4 → (∃ n, lp (wp_X12_isBehind_L71 (fun l6 => b01 l6 ∧ (post l6)) t_towns post) n (l1, l2, s0, 0, 0, 1))) ∧ (¬ l3 ≤ 4 → (∃ n, lp (wp_X12_isBehind_L71 (fun l6 => b01 l6 ∧ (post l6)) t_towns post) n (l1, l2, s0, (-1), 0, 1))))) ∧ (¬ r43 = 0 → (∃ n, lp (wp_X12_isBehind_L71 (fun l6 => b01 l6 ∧ (post l6)) t_towns post) n (l1, l2, s0, 1, 0, 1)))) := hw
  refine s_istore (pc := 38) (i := 4) (lo' := [some (.ref A_t), some (.int l1), some (.int l2), some (.int l3), some (.int s0), none, none, none, none, none]) C dX12_isBehind_38 (by decide) rfl rfl ?_
  refine a_iload_n (pc := 40) (i := 3) C dX12_isBehind_40 rfl rfl ?_
  refine a_iconst (pc := 41) C dX12_isBehind_41 kc_1 ?_
  refine a_iconst (pc := 42) C dX12_isBehind_42 kc_3 ?_
  refine a_callSi (pc := 43) (As := [.int l3, .int 1, .int 3]) (st := []) (ws' := (fun _ => (w_X12_isBehind (cxG X) A_t A_t_towns U_t_thrown U_t_tape U_t_taped U_t_size U_t_sort U_t_place U_t_value U_t_at U_t_fault U_t_words U_t_op U_t_arg U_t_codes U_t_facts U_t_pile U_t_shadeDay U_t_sun U_t_isShut U_t_sunny U_t_cost U_t_leastCost U_t_leastEnd U_t_wayOf U_t_wayMany U_t_whereAt U_t_reach U_t_likely U_t_crowdAt U_t_crowdBy U_t_crowdRounds U_t_bestSquare U_t_bestBy U_t_spotsMany U_t_spotAt U_t_followed U_t_followOf U_t_toldMany U_t_toldOf U_t_stepsTo U_t_reachOne U_t_isMarked U_t_markOf t_towns))) C (c_X12_within hw) dX12_isBehind_43 mth_X12_within tml_X12_289 (fun _ _ h => trivial) Fz0_ok (rml (by decide) (by decide)) (Nat.le_of_ble_eq_true rfl) rfl rfl [] [0, 1] [0, 1] rfl rfl rfl rfl rfl rfl (fun _ => rfl) rfl (fun _ => rfl) (fun r43 u hw => ?_)
  obtain ⟨z_43, hw⟩ := hw
  show AW X 10 0 0 (w_X12_isBehind (cxG X) A_t A_t_towns U_t_thrown U_t_tape U_t_taped U_t_size U_t_sort U_t_place U_t_value U_t_at U_t_fault U_t_words U_t_op U_t_arg U_t_codes U_t_facts U_t_pile U_t_shadeDay U_t_sun U_t_isShut U_t_sunny U_t_cost U_t_leastCost U_t_leastEnd U_t_wayOf U_t_wayMany U_t_whereAt U_t_reach U_t_likely U_t_crowdAt U_t_crowdBy U_t_crowdRounds U_t_bestSquare U_t_bestBy U_t_spotsMany U_t_spotAt U_t_followed U_t_followOf U_t_toldMany U_t_toldOf U_t_stepsTo U_t_reachOne U_t_isMarked U_t_markOf t_towns) pl 46 [some (.ref A_t), some (.int l1), some (.int l2), some (.int l3), some (.int s0), none, none, none, none, none] [.int r43]
  refine a_if_eq (pc := 46) (tgt := 53) C dX12_isBehind_46 (by decide) (fun c_46 => ?_) (fun c_46 => ?_)
  · replace hw := hw.1 c_46
    refine a_iload_n (pc := 53) (i := 3) C dX12_isBehind_53 rfl rfl ?_
    refine a_iconst (pc := 54) C dX12_isBehind_54 kc_4 ?_
    refine a_icmp_le (pc := 55) (tgt := 62) C dX12_isBehind_55 (by decide) (fun c_55 => ?_) (fun c_55 => ?_)
    · replace hw := hw.1 c_55
      refine a_iconst (pc := 62) C dX12_isBehind_62 kc_0 ?_
      refine s_istore (pc := 63) (i := 5) (lo' := [some (.ref A_t), some (.int l1), some (.int l2), some (.int l3), some (.int s0), some (.int 0), none, none, none, none]) C dX12_isBehind_63 (by decide) rfl rfl ?_
      refine a_iconst (pc := 65) C dX12_isBehind_65 kc_0 ?_
      refine s_istore (pc := 66) (i := 6) (lo' := [some (.ref A_t), some (.int l1), some (.int l2), some (.int l3), some (.int s0), some (.int 0), some (.int 0), none, none, none]) C dX12_isBehind_66 (by decide) rfl rfl ?_
      refine a_iconst (pc := 68) C dX12_isBehind_68 kc_1 ?_
      refine s_istore (pc := 69) (i := 7) (lo' := [some (.ref A_t), some (.int l1), some (.int l2), some (.int l3), some (.int s0), some (.int 0), some (.int 0), some (.int 1), none, none]) C dX12_isBehind_69 (by decide) rfl rfl ?_
      refine a_msk [true, true, true, false, true, true, true, true, true, true] rfl ?_
      obtain ⟨n71, hw⟩ := hw
      refine m_X12_isBehind_L71 C hret (fun l6 hw => ?_) n71 _ _ _ _ _ _ hw
      refine a_iload (pc := 181) (i := 6) C dX12_isBehind_181 rfl ?_
      obtain ⟨z_183, hw⟩ := hw
      exact hret _ _ _ z_183 hw dX12_isBehind_183
    · replace hw := hw.2 c_55
      refine a_iconst (pc := 58) C dX12_isBehind_58 kc_m1 ?_
      refine a_goto (pc := 59) (tgt := 63) C dX12_isBehind_59 (by decide) ?_
      refine s_istore (pc := 63) (i := 5) (lo' := [some (.ref A_t), some (.int l1), some (.int l2), some (.int l3), some (.int s0), some (.int (-1)), none, none, none, none]) C dX12_isBehind_63 (by decide) rfl rfl ?_
      refine a_iconst (pc := 65) C dX12_isBehind_65 kc_0 ?_
      refine s_istore (pc := 66) (i := 6) (lo' := [some (.ref A_t), some (.int l1), some (.int l2), some (.int l3), some (.int s0), some (.int (-1)), some (.int 0), none, none, none]) C dX12_isBehind_66 (by decide) rfl rfl ?_
      refine a_iconst (pc := 68) C dX12_isBehind_68 kc_1 ?_
      refine s_istore (pc := 69) (i := 7) (lo' := [some (.ref A_t), some (.int l1), some (.int l2), some (.int l3), some (.int s0), some (.int (-1)), some (.int 0), some (.int 1), none, none]) C dX12_isBehind_69 (by decide) rfl rfl ?_
      refine a_msk [true, true, true, false, true, true, true, true, true, true] rfl ?_
      obtain ⟨n71, hw⟩ := hw
      refine m_X12_isBehind_L71 C hret (fun l6 hw => ?_) n71 _ _ _ _ _ _ hw
      refine a_iload (pc := 181) (i := 6) C dX12_isBehind_181 rfl ?_
      obtain ⟨z_183, hw⟩ := hw
      exact hret _ _ _ z_183 hw dX12_isBehind_183
  · replace hw := hw.2 c_46
    refine a_iconst (pc := 49) C dX12_isBehind_49 kc_1 ?_
    refine a_goto (pc := 50) (tgt := 63) C dX12_isBehind_50 (by decide) ?_
    refine s_istore (pc := 63) (i := 5) (lo' := [some (.ref A_t), some (.int l1), some (.int l2), some (.int l3), some (.int s0), some (.int 1), none, none, none, none]) C dX12_isBehind_63 (by decide) rfl rfl ?_
    refine a_iconst (pc := 65) C dX12_isBehind_65 kc_0 ?_
    refine s_istore (pc := 66) (i := 6) (lo' := [some (.ref A_t), some (.int l1), some (.int l2), some (.int l3), some (.int s0), some (.int 1), some (.int 0), none, none, none]) C dX12_isBehind_66 (by decide) rfl rfl ?_
    refine a_iconst (pc := 68) C dX12_isBehind_68 kc_1 ?_
    refine s_istore (pc := 69) (i := 7) (lo' := [some (.ref A_t), some (.int l1), some (.int l2), some (.int l3), some (.int s0), some (.int 1), some (.int 0), some (.int 1), none, none]) C dX12_isBehind_69 (by decide) rfl rfl ?_
    refine a_msk [true, true, true, false, true, true, true, true, true, true] rfl ?_
    obtain ⟨n71, hw⟩ := hw
    refine m_X12_isBehind_L71 C hret (fun l6 hw => ?_) n71 _ _ _ _ _ _ hw
    refine a_iload (pc := 181) (i := 6) C dX12_isBehind_181 rfl ?_
    obtain ⟨z_183, hw⟩ := hw
    exact hret _ _ _ z_183 hw dX12_isBehind_183
set_option maxRecDepth 20000 in
theorem m_X12_isBehind_b20 {X : Ctx} (C : Cok X cX12_isBehind 10 RX12 (rmL 1) Fz0) {pl : Pool} {A_t A_t_towns : Nat} {U_t_thrown U_t_tape U_t_taped U_t_size U_t_sort U_t_place U_t_value U_t_at U_t_fault U_t_words U_t_op U_t_arg U_t_codes U_t_facts U_t_pile U_t_shadeDay U_t_sun U_t_isShut U_t_sunny U_t_cost U_t_leastCost U_t_leastEnd U_t_wayOf U_t_wayMany U_t_whereAt U_t_reach U_t_likely U_t_crowdAt U_t_crowdBy U_t_crowdRounds U_t_bestSquare U_t_bestBy U_t_spotsMany U_t_spotAt U_t_followed U_t_followOf U_t_toldMany U_t_toldOf U_t_stepsTo U_t_reachOne U_t_isMarked U_t_markOf : Value} {t_towns : Nat → Int32} {post : Int32 → Prop} (hret : ∀ (r : Int32) (pc : Nat) (lo : List (Option Value)), b01 r → post r → decode cX12_isBehind pc = .ok (.ireturn, 1) → AW X 10 0 0 (w_X12_isBehind (cxG X) A_t A_t_towns U_t_thrown U_t_tape U_t_taped U_t_size U_t_sort U_t_place U_t_value U_t_at U_t_fault U_t_words U_t_op U_t_arg U_t_codes U_t_facts U_t_pile U_t_shadeDay U_t_sun U_t_isShut U_t_sunny U_t_cost U_t_leastCost U_t_leastEnd U_t_wayOf U_t_wayMany U_t_whereAt U_t_reach U_t_likely U_t_crowdAt U_t_crowdBy U_t_crowdRounds U_t_bestSquare U_t_bestBy U_t_spotsMany U_t_spotAt U_t_followed U_t_followOf U_t_toldMany U_t_toldOf U_t_stepsTo U_t_reachOne U_t_isMarked U_t_markOf t_towns) pl pc lo [.int r]) {l1 : Int32} {l2 : Int32} {l3 : Int32} (hw : wp_X12_isBehind_b20  t_towns post l1 l2 l3) : AW X 10 0 0 (w_X12_isBehind (cxG X) A_t A_t_towns U_t_thrown U_t_tape U_t_taped U_t_size U_t_sort U_t_place U_t_value U_t_at U_t_fault U_t_words U_t_op U_t_arg U_t_codes U_t_facts U_t_pile U_t_shadeDay U_t_sun U_t_isShut U_t_sunny U_t_cost U_t_leastCost U_t_leastEnd U_t_wayOf U_t_wayMany U_t_whereAt U_t_reach U_t_likely U_t_crowdAt U_t_crowdBy U_t_crowdRounds U_t_bestSquare U_t_bestBy U_t_spotsMany U_t_spotAt U_t_followed U_t_followOf U_t_toldMany U_t_toldOf U_t_stepsTo U_t_reachOne U_t_isMarked U_t_markOf t_towns) pl 20 [some (.ref A_t), some (.int l1), some (.int l2), some (.int l3), none, none, none, none, none, none] [] := by
  replace hw : wp_X12_isBehind_b38 t_towns post l1 l2 l3 (-1) := hw
  refine a_iconst (pc := 20) C dX12_isBehind_20 kc_m1 ?_
  refine a_goto (pc := 21) (tgt := 38) C dX12_isBehind_21 (by decide) ?_
  exact m_X12_isBehind_b38 C hret hw
set_option maxRecDepth 20000 in
theorem m_X12_isBehind {X : Ctx} (C : Cok X cX12_isBehind 10 RX12 (rmL 1) Fz0) {pl : Pool} {A_t A_t_towns : Nat} {U_t_thrown U_t_tape U_t_taped U_t_size U_t_sort U_t_place U_t_value U_t_at U_t_fault U_t_words U_t_op U_t_arg U_t_codes U_t_facts U_t_pile U_t_shadeDay U_t_sun U_t_isShut U_t_sunny U_t_cost U_t_leastCost U_t_leastEnd U_t_wayOf U_t_wayMany U_t_whereAt U_t_reach U_t_likely U_t_crowdAt U_t_crowdBy U_t_crowdRounds U_t_bestSquare U_t_bestBy U_t_spotsMany U_t_spotAt U_t_followed U_t_followOf U_t_toldMany U_t_toldOf U_t_stepsTo U_t_reachOne U_t_isMarked U_t_markOf : Value} {t_towns : Nat → Int32} {p1 : Int32} {p2 : Int32} {post : Int32 → Prop} (hret : ∀ (r : Int32) (pc : Nat) (lo : List (Option Value)), b01 r → post r → decode cX12_isBehind pc = .ok (.ireturn, 1) → AW X 10 0 0 (w_X12_isBehind (cxG X) A_t A_t_towns U_t_thrown U_t_tape U_t_taped U_t_size U_t_sort U_t_place U_t_value U_t_at U_t_fault U_t_words U_t_op U_t_arg U_t_codes U_t_facts U_t_pile U_t_shadeDay U_t_sun U_t_isShut U_t_sunny U_t_cost U_t_leastCost U_t_leastEnd U_t_wayOf U_t_wayMany U_t_whereAt U_t_reach U_t_likely U_t_crowdAt U_t_crowdBy U_t_crowdRounds U_t_bestSquare U_t_bestBy U_t_spotsMany U_t_spotAt U_t_followed U_t_followOf U_t_toldMany U_t_toldOf U_t_stepsTo U_t_reachOne U_t_isMarked U_t_markOf t_towns) pl pc lo [.int r]) (hw : wp_X12_isBehind t_towns p1 p2 post) : AW X 10 0 0 (w_X12_isBehind (cxG X) A_t A_t_towns U_t_thrown U_t_tape U_t_taped U_t_size U_t_sort U_t_place U_t_value U_t_at U_t_fault U_t_words U_t_op U_t_arg U_t_codes U_t_facts U_t_pile U_t_shadeDay U_t_sun U_t_isShut U_t_sunny U_t_cost U_t_leastCost U_t_leastEnd U_t_wayOf U_t_wayMany U_t_whereAt U_t_reach U_t_likely U_t_crowdAt U_t_crowdBy U_t_crowdRounds U_t_bestSquare U_t_bestBy U_t_spotsMany U_t_spotAt U_t_followed U_t_followOf U_t_toldMany U_t_toldOf U_t_stepsTo U_t_reachOne U_t_isMarked U_t_markOf t_towns) pl 0 [some (.ref A_t), some (.int p1), some (.int p2), none, none, none, none, none, none, none] [] := by
  refine a_aload_n (pc := 0) (i := 0) C dX12_isBehind_0 rfl rfl ?_
  refine a_get (pc := 1) C fl_X12_97 dX12_isBehind_1 0 rfl rfl ?_
  refine a_iload_n (pc := 4) (i := 2) C dX12_isBehind_4 rfl rfl ?_
  refine a_iconst (pc := 5) C dX12_isBehind_5 kc_2 ?_
  refine a_iadd (pc := 6) C dX12_isBehind_6 ?_
  refine a_topi (fun x7 e_x7 => ?_)
  replace hw := hw x7 e_x7
  obtain ⟨i_7, hw⟩ := hw
  refine a_iald (pc := 7) C dX12_isBehind_7 1 rfl i_7 ?_
  refine a_topi (fun x8 e_x8 => ?_)
  replace hw := hw x8 e_x8
  refine s_istore_n (pc := 8) (i := 3) (lo' := [some (.ref A_t), some (.int p1), some (.int p2), some (.int x8), none, none, none, none, none, none]) C dX12_isBehind_8 rfl (by decide) rfl rfl ?_
  refine a_iload_n (pc := 9) (i := 3) C dX12_isBehind_9 rfl rfl ?_
  refine a_bipush (pc := 10) C dX12_isBehind_10 kb_7 ?_
  refine a_icmp_eq (pc := 12) (tgt := 20) C dX12_isBehind_12 (by decide) (fun c_12 => ?_) (fun c_12 => ?_)
  · replace hw := hw.1 c_12
    exact m_X12_isBehind_b20 C hret hw
  · replace hw := hw.2 c_12
    refine a_iload_n (pc := 15) (i := 3) C dX12_isBehind_15 rfl rfl ?_
    refine a_iconst (pc := 16) C dX12_isBehind_16 kc_2 ?_
    refine a_icmp_ge (pc := 17) (tgt := 24) C dX12_isBehind_17 (by decide) (fun c_17 => ?_) (fun c_17 => ?_)
    · replace hw := hw.1 c_17
      refine a_iload_n (pc := 24) (i := 3) C dX12_isBehind_24 rfl rfl ?_
      refine a_iconst (pc := 25) C dX12_isBehind_25 kc_3 ?_
      refine a_iconst (pc := 26) C dX12_isBehind_26 kc_5 ?_
      refine a_callSi (pc := 27) (As := [.int x8, .int 3, .int 5]) (st := []) (ws' := (fun _ => (w_X12_isBehind (cxG X) A_t A_t_towns U_t_thrown U_t_tape U_t_taped U_t_size U_t_sort U_t_place U_t_value U_t_at U_t_fault U_t_words U_t_op U_t_arg U_t_codes U_t_facts U_t_pile U_t_shadeDay U_t_sun U_t_isShut U_t_sunny U_t_cost U_t_leastCost U_t_leastEnd U_t_wayOf U_t_wayMany U_t_whereAt U_t_reach U_t_likely U_t_crowdAt U_t_crowdBy U_t_crowdRounds U_t_bestSquare U_t_bestBy U_t_spotsMany U_t_spotAt U_t_followed U_t_followOf U_t_toldMany U_t_toldOf U_t_stepsTo U_t_reachOne U_t_isMarked U_t_markOf t_towns))) C (c_X12_within hw) dX12_isBehind_27 mth_X12_within tml_X12_289 (fun _ _ h => trivial) Fz0_ok (rml (by decide) (by decide)) (Nat.le_of_ble_eq_true rfl) rfl rfl [] [0, 1] [0, 1] rfl rfl rfl rfl rfl rfl (fun _ => rfl) rfl (fun _ => rfl) (fun r27 u hw => ?_)
      obtain ⟨z_27, hw⟩ := hw
      show AW X 10 0 0 (w_X12_isBehind (cxG X) A_t A_t_towns U_t_thrown U_t_tape U_t_taped U_t_size U_t_sort U_t_place U_t_value U_t_at U_t_fault U_t_words U_t_op U_t_arg U_t_codes U_t_facts U_t_pile U_t_shadeDay U_t_sun U_t_isShut U_t_sunny U_t_cost U_t_leastCost U_t_leastEnd U_t_wayOf U_t_wayMany U_t_whereAt U_t_reach U_t_likely U_t_crowdAt U_t_crowdBy U_t_crowdRounds U_t_bestSquare U_t_bestBy U_t_spotsMany U_t_spotAt U_t_followed U_t_followOf U_t_toldMany U_t_toldOf U_t_stepsTo U_t_reachOne U_t_isMarked U_t_markOf t_towns) pl 30 [some (.ref A_t), some (.int p1), some (.int p2), some (.int x8), none, none, none, none, none, none] [.int r27]
      refine a_if_eq (pc := 30) (tgt := 37) C dX12_isBehind_30 (by decide) (fun c_30 => ?_) (fun c_30 => ?_)
      · replace hw := hw.1 c_30
        refine a_iconst (pc := 37) C dX12_isBehind_37 kc_0 ?_
        exact m_X12_isBehind_b38 C hret hw
      · replace hw := hw.2 c_30
        refine a_iconst (pc := 33) C dX12_isBehind_33 kc_1 ?_
        refine a_goto (pc := 34) (tgt := 38) C dX12_isBehind_34 (by decide) ?_
        exact m_X12_isBehind_b38 C hret hw
    · replace hw := hw.2 c_17
      exact m_X12_isBehind_b20 C hret hw
theorem c_X12_isBehind {l : Launch} {g : GG} {pl : Pool} (A_t A_t_towns : Nat) (U_t_thrown U_t_tape U_t_taped U_t_size U_t_sort U_t_place U_t_value U_t_at U_t_fault U_t_words U_t_op U_t_arg U_t_codes U_t_facts U_t_pile U_t_shadeDay U_t_sun U_t_isShut U_t_sunny U_t_cost U_t_leastCost U_t_leastEnd U_t_wayOf U_t_wayMany U_t_whereAt U_t_reach U_t_likely U_t_crowdAt U_t_crowdBy U_t_crowdRounds U_t_bestSquare U_t_bestBy U_t_spotsMany U_t_spotAt U_t_followed U_t_followOf U_t_toldMany U_t_toldOf U_t_stepsTo U_t_reachOne U_t_isMarked U_t_markOf : Value) {t_towns : Nat → Int32} {p1 : Int32} {p2 : Int32} {post : Int32 → Prop} (hw : wp_X12_isBehind t_towns p1 p2 post) : MI l yX12_isBehind cX12_isBehind 10 (some .boolean) (rmL 1) g Fz0 [.ref A_t, .int p1, .int p2] (w_X12_isBehind g A_t A_t_towns U_t_thrown U_t_tape U_t_taped U_t_size U_t_sort U_t_place U_t_value U_t_at U_t_fault U_t_words U_t_op U_t_arg U_t_codes U_t_facts U_t_pile U_t_shadeDay U_t_sun U_t_isShut U_t_sunny U_t_cost U_t_leastCost U_t_leastEnd U_t_wayOf U_t_wayMany U_t_whereAt U_t_reach U_t_likely U_t_crowdAt U_t_crowdBy U_t_crowdRounds U_t_bestSquare U_t_bestBy U_t_spotsMany U_t_spotAt U_t_followed U_t_followOf U_t_toldMany U_t_toldOf U_t_stepsTo U_t_reachOne U_t_isMarked U_t_markOf t_towns) pl (fun r (_ : Unit) => b01 r ∧ post r) (fun _ => (w_X12_isBehind g A_t A_t_towns U_t_thrown U_t_tape U_t_taped U_t_size U_t_sort U_t_place U_t_value U_t_at U_t_fault U_t_words U_t_op U_t_arg U_t_codes U_t_facts U_t_pile U_t_shadeDay U_t_sun U_t_isShut U_t_sunny U_t_cost U_t_leastCost U_t_leastEnd U_t_wayOf U_t_wayMany U_t_whereAt U_t_reach U_t_likely U_t_crowdAt U_t_crowdBy U_t_crowdRounds U_t_bestSquare U_t_bestBy U_t_spotsMany U_t_spotAt U_t_followed U_t_followOf U_t_toldMany U_t_toldOf U_t_stepsTo U_t_reachOne U_t_isMarked U_t_markOf t_towns)) (fun _ => pl) 0 0 := by
  refine mi_b01 ?_
  refine met_z (own := RX12) rfl rfl (Nat.le_of_ble_eq_true rfl) (fun X hg hl C hini hret => ?_)
  subst hg
  subst hl
  exact m_X12_isBehind C (fun r pc lo z hp hd => hret r () pc lo (b01_nar z) hp hd) hw
abbrev w_X12_isClothed (g : GG) (A_t A_t_facts A_t_towns A_t_op A_t_pile A_t_arg : Nat) (U_t_thrown U_t_tape U_t_taped U_t_size U_t_sort U_t_place U_t_value U_t_at U_t_fault U_t_words U_t_codes U_t_shadeDay U_t_sun U_t_isShut U_t_sunny U_t_cost U_t_leastCost U_t_leastEnd U_t_wayOf U_t_wayMany U_t_whereAt U_t_reach U_t_likely U_t_crowdAt U_t_crowdBy U_t_crowdRounds U_t_bestSquare U_t_bestBy U_t_spotsMany U_t_spotAt U_t_followed U_t_followOf U_t_toldMany U_t_toldOf U_t_stepsTo U_t_reachOne U_t_isMarked U_t_markOf : Value) (t_facts : Nat → Int32) (t_towns : Nat → Int32) (t_op : Nat → Int32) (t_pile : Nat → Int32) (t_arg : Nat → Int32) : va_W := [(A_t, ob 12 [U_t_thrown, U_t_tape, U_t_taped, U_t_size, U_t_sort, U_t_place, U_t_value, U_t_at, U_t_fault, U_t_words, .ref A_t_towns, .ref A_t_op, .ref A_t_arg, U_t_codes, .ref A_t_facts, .ref A_t_pile, U_t_shadeDay, U_t_sun, U_t_isShut, U_t_sunny, U_t_cost, U_t_leastCost, U_t_leastEnd, U_t_wayOf, U_t_wayMany, U_t_whereAt, U_t_reach, U_t_likely, U_t_crowdAt, U_t_crowdBy, U_t_crowdRounds, U_t_bestSquare, U_t_bestBy, U_t_spotsMany, U_t_spotAt, U_t_followed, U_t_followOf, U_t_toldMany, U_t_toldOf, U_t_stepsTo, U_t_reachOne, U_t_isMarked, U_t_markOf]), (A_t_facts, aI g 2 t_facts), (A_t_towns, aI g 2640 t_towns), (A_t_op, aI g 6600 t_op), (A_t_pile, aI g 1100 t_pile), (A_t_arg, aI g 6600 t_arg)]
set_option maxRecDepth 20000 in
theorem m_X12_isClothed_L20 {X : Ctx} (C : Cok X cX12_isClothed 8 RX12 (rmL 2) Fz0) {pl : Pool} {A_t A_t_facts A_t_towns A_t_op A_t_pile A_t_arg : Nat} {U_t_thrown U_t_tape U_t_taped U_t_size U_t_sort U_t_place U_t_value U_t_at U_t_fault U_t_words U_t_codes U_t_shadeDay U_t_sun U_t_isShut U_t_sunny U_t_cost U_t_leastCost U_t_leastEnd U_t_wayOf U_t_wayMany U_t_whereAt U_t_reach U_t_likely U_t_crowdAt U_t_crowdBy U_t_crowdRounds U_t_bestSquare U_t_bestBy U_t_spotsMany U_t_spotAt U_t_followed U_t_followOf U_t_toldMany U_t_toldOf U_t_stepsTo U_t_reachOne U_t_isMarked U_t_markOf : Value} {t_towns : Nat → Int32} {t_op : Nat → Int32} {t_arg : Nat → Int32} {post : Int32 → (Nat → Int32) → (Nat → Int32) → Prop} (hret : ∀ (r : Int32) (w0 : Nat → Int32) (w1 : Nat → Int32) (pc : Nat) (lo : List (Option Value)), b01 r → post r w0 w1 → decode cX12_isClothed pc = .ok (.ireturn, 1) → AW X 8 0 0 (w_X12_isClothed (cxG X) A_t A_t_facts A_t_towns A_t_op A_t_pile A_t_arg U_t_thrown U_t_tape U_t_taped U_t_size U_t_sort U_t_place U_t_value U_t_at U_t_fault U_t_words U_t_codes U_t_shadeDay U_t_sun U_t_isShut U_t_sunny U_t_cost U_t_leastCost U_t_leastEnd U_t_wayOf U_t_wayMany U_t_whereAt U_t_reach U_t_likely U_t_crowdAt U_t_crowdBy U_t_crowdRounds U_t_bestSquare U_t_bestBy U_t_spotsMany U_t_spotAt U_t_followed U_t_followOf U_t_toldMany U_t_toldOf U_t_stepsTo U_t_reachOne U_t_isMarked U_t_markOf w0 t_towns t_op w1 t_arg) pl pc lo [.int r]) {x_102 : (Nat → Int32) → (Nat → Int32) → Int32 → Prop} (hx_102 : ∀ (t_facts : Nat → Int32) (t_pile : Nat → Int32) (l5 : Int32) , x_102 t_facts t_pile l5 → AW X 8 0 0 (w_X12_isClothed (cxG X) A_t A_t_facts A_t_towns A_t_op A_t_pile A_t_arg U_t_thrown U_t_tape U_t_taped U_t_size U_t_sort U_t_place U_t_value U_t_at U_t_fault U_t_words U_t_codes U_t_shadeDay U_t_sun U_t_isShut U_t_sunny U_t_cost U_t_leastCost U_t_leastEnd U_t_wayOf U_t_wayMany U_t_whereAt U_t_reach U_t_likely U_t_crowdAt U_t_crowdBy U_t_crowdRounds U_t_bestSquare U_t_bestBy U_t_spotsMany U_t_spotAt U_t_followed U_t_followOf U_t_toldMany U_t_toldOf U_t_stepsTo U_t_reachOne U_t_isMarked U_t_markOf t_facts t_towns t_op t_pile t_arg) pl 102 [none, none, none, none, none, some (.int l5), none, none] []) : ∀ (n20 : Nat) (t_facts : Nat → Int32) (t_pile : Nat → Int32) (l3 : Int32) (l4 : Int32) (l5 : Int32) (l6 : Int32) , lp (wp_X12_isClothed_L20 x_102 t_towns t_op t_arg post) n20 (t_facts, t_pile, l3, l4, l5, l6) → AW X 8 0 0 (w_X12_isClothed (cxG X) A_t A_t_facts A_t_towns A_t_op A_t_pile A_t_arg U_t_thrown U_t_tape U_t_taped U_t_size U_t_sort U_t_place U_t_value U_t_at U_t_fault U_t_words U_t_codes U_t_shadeDay U_t_sun U_t_isShut U_t_sunny U_t_cost U_t_leastCost U_t_leastEnd U_t_wayOf U_t_wayMany U_t_whereAt U_t_reach U_t_likely U_t_crowdAt U_t_crowdBy U_t_crowdRounds U_t_bestSquare U_t_bestBy U_t_spotsMany U_t_spotAt U_t_followed U_t_followOf U_t_toldMany U_t_toldOf U_t_stepsTo U_t_reachOne U_t_isMarked U_t_markOf t_facts t_towns t_op t_pile t_arg) pl 20 [some (.ref A_t), none, none, some (.int l3), some (.int l4), some (.int l5), some (.int l6), none] [] := by
  intro n20
  induction n20 with
  | zero => exact fun _ _ _ _ _ _ hw => hw.elim
  | succ n20 hkb =>
    intro t_facts t_pile l3 l4 l5 l6 hw
    replace hw : wp_X12_isClothed_L20 x_102 t_towns t_op t_arg post (lp (wp_X12_isClothed_L20 x_102 t_towns t_op t_arg post) n20) (t_facts, t_pile, l3, l4, l5, l6) := hw
    generalize lp (wp_X12_isClothed_L20 x_102 t_towns t_op t_arg post) n20 = kb at hw hkb
    refine a_iload (pc := 20) (i := 6) C dX12_isClothed_20 rfl ?_
    refine a_aload_n (pc := 22) (i := 0) C dX12_isClothed_22 rfl rfl ?_
    refine a_get (pc := 23) C fl_X12_97 dX12_isClothed_23 0 rfl rfl ?_
    refine a_sipush (pc := 26) C dX12_isClothed_26 ks_200 ?_
    obtain ⟨i_29, hw⟩ := hw
    refine a_iald (pc := 29) C dX12_isClothed_29 2 rfl i_29 ?_
    refine a_icmp_ge (pc := 30) (tgt := 102) C dX12_isClothed_30 (by decide) (fun c_30 => ?_) (fun c_30 => ?_)
    · replace hw := hw.1 c_30
      refine a_msk [false, true, true, false, false, true, false, true] rfl ?_
      exact hx_102 _ _ _ hw
    · replace hw := hw.2 c_30
      refine a_sipush (pc := 33) C dX12_isClothed_33 ks_201 ?_
      refine a_iconst (pc := 36) C dX12_isClothed_36 kc_3 ?_
      refine a_iload (pc := 37) (i := 6) C dX12_isClothed_37 rfl ?_
      refine a_imul (pc := 39) C dX12_isClothed_39 ?_
      refine a_iadd (pc := 40) C dX12_isClothed_40 ?_
      refine a_topi (fun x41 e_x41 => ?_)
      replace hw := hw x41 e_x41
      refine s_istore (pc := 41) (i := 7) (lo' := [some (.ref A_t), none, none, some (.int l3), some (.int l4), some (.int l5), some (.int l6), some (.int x41)]) C dX12_isClothed_41 (by decide) rfl rfl ?_
      refine a_iload (pc := 43) (i := 5) C dX12_isClothed_43 rfl ?_
      refine a_if_ne (pc := 45) (tgt := 89) C dX12_isClothed_45 (by decide) (fun c_45 => ?_) (fun c_45 => ?_)
      · replace hw := hw.1 c_45
        refine a_iconst (pc := 89) C dX12_isClothed_89 kc_1 ?_
        refine a_goto (pc := 90) (tgt := 94) C dX12_isClothed_90 (by decide) ?_
        refine s_istore (pc := 94) (i := 5) (lo' := [some (.ref A_t), none, none, some (.int l3), some (.int l4), some (.int 1), some (.int l6), some (.int x41)]) C dX12_isClothed_94 (by decide) rfl rfl ?_
        refine a_inc (pc := 96) (i := 6) C (fun y => [some (.ref A_t), none, none, some (.int l3), some (.int l4), some (.int 1), some (.int y), some (.int x41)]) dX12_isClothed_96 rfl kc_1 (by decide) rfl (fun _ => rfl) (fun y96 e_y96 => ?_)
        replace hw := hw y96 e_y96
        refine a_goto (pc := 99) (tgt := 20) C dX12_isClothed_99 (by decide) ?_
        refine a_msk [true, true, true, true, true, true, true, false] rfl ?_
        exact hkb _ _ _ _ _ _ hw
      · replace hw := hw.2 c_45
        refine a_aload_n (pc := 48) (i := 0) C dX12_isClothed_48 rfl rfl ?_
        refine a_get (pc := 49) C fl_X12_97 dX12_isClothed_49 0 rfl rfl ?_
        refine a_iload (pc := 52) (i := 7) C dX12_isClothed_52 rfl ?_
        obtain ⟨i_54, hw⟩ := hw
        refine a_iald (pc := 54) C dX12_isClothed_54 2 rfl i_54 ?_
        refine a_iload_n (pc := 55) (i := 3) C dX12_isClothed_55 rfl rfl ?_
        refine a_icmp_ne (pc := 56) (tgt := 93) C dX12_isClothed_56 (by decide) (fun c_56 => ?_) (fun c_56 => ?_)
        · replace hw := hw.1 c_56
          refine a_iconst (pc := 93) C dX12_isClothed_93 kc_0 ?_
          refine s_istore (pc := 94) (i := 5) (lo' := [some (.ref A_t), none, none, some (.int l3), some (.int l4), some (.int 0), some (.int l6), some (.int x41)]) C dX12_isClothed_94 (by decide) rfl rfl ?_
          refine a_inc (pc := 96) (i := 6) C (fun y => [some (.ref A_t), none, none, some (.int l3), some (.int l4), some (.int 0), some (.int y), some (.int x41)]) dX12_isClothed_96 rfl kc_1 (by decide) rfl (fun _ => rfl) (fun y96 e_y96 => ?_)
          replace hw := hw y96 e_y96
          refine a_goto (pc := 99) (tgt := 20) C dX12_isClothed_99 (by decide) ?_
          refine a_msk [true, true, true, true, true, true, true, false] rfl ?_
          exact hkb _ _ _ _ _ _ hw
        · replace hw := hw.2 c_56
          refine a_aload_n (pc := 59) (i := 0) C dX12_isClothed_59 rfl rfl ?_
          refine a_get (pc := 60) C fl_X12_97 dX12_isClothed_60 0 rfl rfl ?_
          refine a_iload (pc := 63) (i := 7) C dX12_isClothed_63 rfl ?_
          refine a_iconst (pc := 65) C dX12_isClothed_65 kc_1 ?_
          refine a_iadd (pc := 66) C dX12_isClothed_66 ?_
          refine a_topi (fun x67 e_x67 => ?_)
          replace hw := hw x67 e_x67
          obtain ⟨i_67, hw⟩ := hw
          refine a_iald (pc := 67) C dX12_isClothed_67 2 rfl i_67 ?_
          refine a_iload (pc := 68) (i := 4) C dX12_isClothed_68 rfl ?_
          refine a_icmp_ne (pc := 70) (tgt := 93) C dX12_isClothed_70 (by decide) (fun c_70 => ?_) (fun c_70 => ?_)
          · replace hw := hw.1 c_70
            refine a_iconst (pc := 93) C dX12_isClothed_93 kc_0 ?_
            refine s_istore (pc := 94) (i := 5) (lo' := [some (.ref A_t), none, none, some (.int l3), some (.int l4), some (.int 0), some (.int l6), some (.int x41)]) C dX12_isClothed_94 (by decide) rfl rfl ?_
            refine a_inc (pc := 96) (i := 6) C (fun y => [some (.ref A_t), none, none, some (.int l3), some (.int l4), some (.int 0), some (.int y), some (.int x41)]) dX12_isClothed_96 rfl kc_1 (by decide) rfl (fun _ => rfl) (fun y96 e_y96 => ?_)
            replace hw := hw y96 e_y96
            refine a_goto (pc := 99) (tgt := 20) C dX12_isClothed_99 (by decide) ?_
            refine a_msk [true, true, true, true, true, true, true, false] rfl ?_
            exact hkb _ _ _ _ _ _ hw
          · replace hw := hw.2 c_70
            refine a_aload_n (pc := 73) (i := 0) C dX12_isClothed_73 rfl rfl ?_
            refine a_aload_n (pc := 74) (i := 0) C dX12_isClothed_74 rfl rfl ?_
            refine a_get (pc := 75) C fl_X12_97 dX12_isClothed_75 0 rfl rfl ?_
            refine a_iload (pc := 78) (i := 7) C dX12_isClothed_78 rfl ?_
            refine a_iconst (pc := 80) C dX12_isClothed_80 kc_2 ?_
            refine a_iadd (pc := 81) C dX12_isClothed_81 ?_
            refine a_topi (fun x82 e_x82 => ?_)
            replace hw := hw x82 e_x82
            obtain ⟨i_82, hw⟩ := hw
            refine a_iald (pc := 82) C dX12_isClothed_82 2 rfl i_82 ?_
            refine a_callVi (pc := 83) (As := [.int (t_towns (Int32.toNatClampNeg x82))]) (st := []) (ws' := (fun u => (w_X12_isClothed (cxG X) A_t A_t_facts A_t_towns A_t_op A_t_pile A_t_arg U_t_thrown U_t_tape U_t_taped U_t_size U_t_sort U_t_place U_t_value U_t_at U_t_fault U_t_words U_t_codes U_t_shadeDay U_t_sun U_t_isShut U_t_sunny U_t_cost U_t_leastCost U_t_leastEnd U_t_wayOf U_t_wayMany U_t_whereAt U_t_reach U_t_likely U_t_crowdAt U_t_crowdBy U_t_crowdRounds U_t_bestSquare U_t_bestBy U_t_spotsMany U_t_spotAt U_t_followed U_t_followOf U_t_toldMany U_t_toldOf U_t_stepsTo U_t_reachOne U_t_isMarked U_t_markOf t_facts t_towns t_op u t_arg))) C (c_X12_worthAt A_t A_t_op A_t_pile A_t_facts A_t_arg U_t_thrown U_t_tape U_t_taped U_t_size U_t_sort U_t_place U_t_value U_t_at U_t_fault U_t_words (.ref A_t_towns) U_t_codes U_t_shadeDay U_t_sun U_t_isShut U_t_sunny U_t_cost U_t_leastCost U_t_leastEnd U_t_wayOf U_t_wayMany U_t_whereAt U_t_reach U_t_likely U_t_crowdAt U_t_crowdBy U_t_crowdRounds U_t_bestSquare U_t_bestBy U_t_spotsMany U_t_spotAt U_t_followed U_t_followOf U_t_toldMany U_t_toldOf U_t_stepsTo U_t_reachOne U_t_isMarked U_t_markOf hw) dX12_isClothed_83 mth_X12_worthAt tml_X12_304 (fun _ _ h => trivial) Fz0_ok (rml (by decide) (by decide)) (Nat.le_of_ble_eq_true rfl) rfl rfl [0, 3, 4, 1, 5] [2] [1, 4, 0, 2, 3, 5] rfl rfl rfl rfl rfl rfl (ci := 12) rfl ⟨0, _, rfl⟩ (fun _ => rfl) rfl (fun _ => rfl) (fun r83 u hw => ?_)
            obtain ⟨t_pile_83, rfl⟩ : ∃ z, z = u := ⟨_, rfl⟩
            show AW X 8 0 0 (w_X12_isClothed (cxG X) A_t A_t_facts A_t_towns A_t_op A_t_pile A_t_arg U_t_thrown U_t_tape U_t_taped U_t_size U_t_sort U_t_place U_t_value U_t_at U_t_fault U_t_words U_t_codes U_t_shadeDay U_t_sun U_t_isShut U_t_sunny U_t_cost U_t_leastCost U_t_leastEnd U_t_wayOf U_t_wayMany U_t_whereAt U_t_reach U_t_likely U_t_crowdAt U_t_crowdBy U_t_crowdRounds U_t_bestSquare U_t_bestBy U_t_spotsMany U_t_spotAt U_t_followed U_t_followOf U_t_toldMany U_t_toldOf U_t_stepsTo U_t_reachOne U_t_isMarked U_t_markOf t_facts t_towns t_op t_pile_83 t_arg) pl 86 [some (.ref A_t), none, none, some (.int l3), some (.int l4), some (.int l5), some (.int l6), some (.int x41)] [.int r83]
            refine a_if_eq (pc := 86) (tgt := 93) C dX12_isClothed_86 (by decide) (fun c_86 => ?_) (fun c_86 => ?_)
            · replace hw := hw.1 c_86
              refine a_iconst (pc := 93) C dX12_isClothed_93 kc_0 ?_
              refine s_istore (pc := 94) (i := 5) (lo' := [some (.ref A_t), none, none, some (.int l3), some (.int l4), some (.int 0), some (.int l6), some (.int x41)]) C dX12_isClothed_94 (by decide) rfl rfl ?_
              refine a_inc (pc := 96) (i := 6) C (fun y => [some (.ref A_t), none, none, some (.int l3), some (.int l4), some (.int 0), some (.int y), some (.int x41)]) dX12_isClothed_96 rfl kc_1 (by decide) rfl (fun _ => rfl) (fun y96 e_y96 => ?_)
              replace hw := hw y96 e_y96
              refine a_goto (pc := 99) (tgt := 20) C dX12_isClothed_99 (by decide) ?_
              refine a_msk [true, true, true, true, true, true, true, false] rfl ?_
              exact hkb _ _ _ _ _ _ hw
            · replace hw := hw.2 c_86
              refine a_iconst (pc := 89) C dX12_isClothed_89 kc_1 ?_
              refine a_goto (pc := 90) (tgt := 94) C dX12_isClothed_90 (by decide) ?_
              refine s_istore (pc := 94) (i := 5) (lo' := [some (.ref A_t), none, none, some (.int l3), some (.int l4), some (.int 1), some (.int l6), some (.int x41)]) C dX12_isClothed_94 (by decide) rfl rfl ?_
              refine a_inc (pc := 96) (i := 6) C (fun y => [some (.ref A_t), none, none, some (.int l3), some (.int l4), some (.int 1), some (.int y), some (.int x41)]) dX12_isClothed_96 rfl kc_1 (by decide) rfl (fun _ => rfl) (fun y96 e_y96 => ?_)
              replace hw := hw y96 e_y96
              refine a_goto (pc := 99) (tgt := 20) C dX12_isClothed_99 (by decide) ?_
              refine a_msk [true, true, true, true, true, true, true, false] rfl ?_
              exact hkb _ _ _ _ _ _ hw
set_option maxRecDepth 20000 in
theorem m_X12_isClothed {X : Ctx} (C : Cok X cX12_isClothed 8 RX12 (rmL 2) Fz0) {pl : Pool} {A_t A_t_facts A_t_towns A_t_op A_t_pile A_t_arg : Nat} {U_t_thrown U_t_tape U_t_taped U_t_size U_t_sort U_t_place U_t_value U_t_at U_t_fault U_t_words U_t_codes U_t_shadeDay U_t_sun U_t_isShut U_t_sunny U_t_cost U_t_leastCost U_t_leastEnd U_t_wayOf U_t_wayMany U_t_whereAt U_t_reach U_t_likely U_t_crowdAt U_t_crowdBy U_t_crowdRounds U_t_bestSquare U_t_bestBy U_t_spotsMany U_t_spotAt U_t_followed U_t_followOf U_t_toldMany U_t_toldOf U_t_stepsTo U_t_reachOne U_t_isMarked U_t_markOf : Value} {t_towns : Nat → Int32} {t_op : Nat → Int32} {t_arg : Nat → Int32} {t_facts : Nat → Int32} {t_pile : Nat → Int32} {p1 : Int32} {p2 : Int32} {p3 : Int32} {p4 : Int32} {post : Int32 → (Nat → Int32) → (Nat → Int32) → Prop} (hret : ∀ (r : Int32) (w0 : Nat → Int32) (w1 : Nat → Int32) (pc : Nat) (lo : List (Option Value)), b01 r → post r w0 w1 → decode cX12_isClothed pc = .ok (.ireturn, 1) → AW X 8 0 0 (w_X12_isClothed (cxG X) A_t A_t_facts A_t_towns A_t_op A_t_pile A_t_arg U_t_thrown U_t_tape U_t_taped U_t_size U_t_sort U_t_place U_t_value U_t_at U_t_fault U_t_words U_t_codes U_t_shadeDay U_t_sun U_t_isShut U_t_sunny U_t_cost U_t_leastCost U_t_leastEnd U_t_wayOf U_t_wayMany U_t_whereAt U_t_reach U_t_likely U_t_crowdAt U_t_crowdBy U_t_crowdRounds U_t_bestSquare U_t_bestBy U_t_spotsMany U_t_spotAt U_t_followed U_t_followOf U_t_toldMany U_t_toldOf U_t_stepsTo U_t_reachOne U_t_isMarked U_t_markOf w0 t_towns t_op w1 t_arg) pl pc lo [.int r]) (hw : wp_X12_isClothed t_towns t_op t_arg t_facts t_pile p1 p2 p3 p4 post) : AW X 8 0 0 (w_X12_isClothed (cxG X) A_t A_t_facts A_t_towns A_t_op A_t_pile A_t_arg U_t_thrown U_t_tape U_t_taped U_t_size U_t_sort U_t_place U_t_value U_t_at U_t_fault U_t_words U_t_codes U_t_shadeDay U_t_sun U_t_isShut U_t_sunny U_t_cost U_t_leastCost U_t_leastEnd U_t_wayOf U_t_wayMany U_t_whereAt U_t_reach U_t_likely U_t_crowdAt U_t_crowdBy U_t_crowdRounds U_t_bestSquare U_t_bestBy U_t_spotsMany U_t_spotAt U_t_followed U_t_followOf U_t_toldMany U_t_toldOf U_t_stepsTo U_t_reachOne U_t_isMarked U_t_markOf t_facts t_towns t_op t_pile t_arg) pl 0 [some (.ref A_t), some (.int p1), some (.int p2), some (.int p3), some (.int p4), none, none, none] [] := by
  refine a_iconst (pc := 0) C dX12_isClothed_0 kc_0 ?_
  refine s_istore (pc := 1) (i := 5) (lo' := [some (.ref A_t), some (.int p1), some (.int p2), some (.int p3), some (.int p4), some (.int 0), none, none]) C dX12_isClothed_1 (by decide) rfl rfl ?_
  refine a_aload_n (pc := 3) (i := 0) C dX12_isClothed_3 rfl rfl ?_
  refine a_get (pc := 4) C fl_X12_106 dX12_isClothed_4 0 rfl rfl ?_
  refine a_iconst (pc := 7) C dX12_isClothed_7 kc_0 ?_
  refine a_iload_n (pc := 8) (i := 2) C dX12_isClothed_8 rfl rfl ?_
  obtain ⟨i_9, hw⟩ := hw
  refine a_iastW (pc := 9) C (fun h => (w_X12_isClothed (cxG X) A_t A_t_facts A_t_towns A_t_op A_t_pile A_t_arg U_t_thrown U_t_tape U_t_taped U_t_size U_t_sort U_t_place U_t_value U_t_at U_t_fault U_t_words U_t_codes U_t_shadeDay U_t_sun U_t_isShut U_t_sunny U_t_cost U_t_leastCost U_t_leastEnd U_t_wayOf U_t_wayMany U_t_whereAt U_t_reach U_t_likely U_t_crowdAt U_t_crowdBy U_t_crowdRounds U_t_bestSquare U_t_bestBy U_t_spotsMany U_t_spotAt U_t_followed U_t_followOf U_t_toldMany U_t_toldOf U_t_stepsTo U_t_reachOne U_t_isMarked U_t_markOf h t_towns t_op t_pile t_arg)) dX12_isClothed_9 1 rfl i_9 (fun _ => rfl) (fun t_facts_9 e_t_facts_9 => ?_)
  replace hw := hw t_facts_9 e_t_facts_9
  refine a_aload_n (pc := 10) (i := 0) C dX12_isClothed_10 rfl rfl ?_
  refine a_get (pc := 11) C fl_X12_106 dX12_isClothed_11 0 rfl rfl ?_
  refine a_iconst (pc := 14) C dX12_isClothed_14 kc_1 ?_
  refine a_iload_n (pc := 15) (i := 1) C dX12_isClothed_15 rfl rfl ?_
  obtain ⟨i_16, hw⟩ := hw
  refine a_iastW (pc := 16) C (fun h => (w_X12_isClothed (cxG X) A_t A_t_facts A_t_towns A_t_op A_t_pile A_t_arg U_t_thrown U_t_tape U_t_taped U_t_size U_t_sort U_t_place U_t_value U_t_at U_t_fault U_t_words U_t_codes U_t_shadeDay U_t_sun U_t_isShut U_t_sunny U_t_cost U_t_leastCost U_t_leastEnd U_t_wayOf U_t_wayMany U_t_whereAt U_t_reach U_t_likely U_t_crowdAt U_t_crowdBy U_t_crowdRounds U_t_bestSquare U_t_bestBy U_t_spotsMany U_t_spotAt U_t_followed U_t_followOf U_t_toldMany U_t_toldOf U_t_stepsTo U_t_reachOne U_t_isMarked U_t_markOf h t_towns t_op t_pile t_arg)) dX12_isClothed_16 1 rfl i_16 (fun _ => rfl) (fun t_facts_16 e_t_facts_16 => ?_)
  replace hw := hw t_facts_16 e_t_facts_16
  refine a_iconst (pc := 17) C dX12_isClothed_17 kc_0 ?_
  refine s_istore (pc := 18) (i := 6) (lo' := [some (.ref A_t), some (.int p1), some (.int p2), some (.int p3), some (.int p4), some (.int 0), some (.int 0), none]) C dX12_isClothed_18 (by decide) rfl rfl ?_
  refine a_msk [true, false, false, true, true, true, true, true] rfl ?_
  obtain ⟨n20, hw⟩ := hw
  refine m_X12_isClothed_L20 C hret (fun t_facts t_pile l5 hw => ?_) n20 _ _ _ _ _ _ hw
  refine a_iload (pc := 102) (i := 5) C dX12_isClothed_102 rfl ?_
  obtain ⟨z_104, hw⟩ := hw
  exact hret _ _ _ _ _ z_104 hw dX12_isClothed_104
theorem c_X12_isClothed {l : Launch} {g : GG} {pl : Pool} (A_t A_t_facts A_t_towns A_t_op A_t_pile A_t_arg : Nat) (U_t_thrown U_t_tape U_t_taped U_t_size U_t_sort U_t_place U_t_value U_t_at U_t_fault U_t_words U_t_codes U_t_shadeDay U_t_sun U_t_isShut U_t_sunny U_t_cost U_t_leastCost U_t_leastEnd U_t_wayOf U_t_wayMany U_t_whereAt U_t_reach U_t_likely U_t_crowdAt U_t_crowdBy U_t_crowdRounds U_t_bestSquare U_t_bestBy U_t_spotsMany U_t_spotAt U_t_followed U_t_followOf U_t_toldMany U_t_toldOf U_t_stepsTo U_t_reachOne U_t_isMarked U_t_markOf : Value) {t_towns : Nat → Int32} {t_op : Nat → Int32} {t_arg : Nat → Int32} {t_facts : Nat → Int32} {t_pile : Nat → Int32} {p1 : Int32} {p2 : Int32} {p3 : Int32} {p4 : Int32} {post : Int32 → (Nat → Int32) → (Nat → Int32) → Prop} (hw : wp_X12_isClothed t_towns t_op t_arg t_facts t_pile p1 p2 p3 p4 post) : MI l yX12_isClothed cX12_isClothed 8 (some .boolean) (rmL 2) g Fz0 [.ref A_t, .int p1, .int p2, .int p3, .int p4] (w_X12_isClothed g A_t A_t_facts A_t_towns A_t_op A_t_pile A_t_arg U_t_thrown U_t_tape U_t_taped U_t_size U_t_sort U_t_place U_t_value U_t_at U_t_fault U_t_words U_t_codes U_t_shadeDay U_t_sun U_t_isShut U_t_sunny U_t_cost U_t_leastCost U_t_leastEnd U_t_wayOf U_t_wayMany U_t_whereAt U_t_reach U_t_likely U_t_crowdAt U_t_crowdBy U_t_crowdRounds U_t_bestSquare U_t_bestBy U_t_spotsMany U_t_spotAt U_t_followed U_t_followOf U_t_toldMany U_t_toldOf U_t_stepsTo U_t_reachOne U_t_isMarked U_t_markOf t_facts t_towns t_op t_pile t_arg) pl (fun r (u : (Nat → Int32) × (Nat → Int32)) => b01 r ∧ post r u.1 u.2) (fun u => (w_X12_isClothed g A_t A_t_facts A_t_towns A_t_op A_t_pile A_t_arg U_t_thrown U_t_tape U_t_taped U_t_size U_t_sort U_t_place U_t_value U_t_at U_t_fault U_t_words U_t_codes U_t_shadeDay U_t_sun U_t_isShut U_t_sunny U_t_cost U_t_leastCost U_t_leastEnd U_t_wayOf U_t_wayMany U_t_whereAt U_t_reach U_t_likely U_t_crowdAt U_t_crowdBy U_t_crowdRounds U_t_bestSquare U_t_bestBy U_t_spotsMany U_t_spotAt U_t_followed U_t_followOf U_t_toldMany U_t_toldOf U_t_stepsTo U_t_reachOne U_t_isMarked U_t_markOf u.1 t_towns t_op u.2 t_arg)) (fun _ => pl) 0 0 := by
  refine mi_b01 ?_
  refine met_z (own := RX12) rfl rfl (Nat.le_of_ble_eq_true rfl) (fun X hg hl C hini hret => ?_)
  subst hg
  subst hl
  exact m_X12_isClothed C (fun r w0 w1 pc lo z hp hd => hret r (w0, w1) pc lo (b01_nar z) hp hd) hw
abbrev w_X12_isDim (g : GG) (A_t A_t_towns A_t_facts A_t_op A_t_pile A_t_arg : Nat) (U_t_thrown U_t_tape U_t_taped U_t_size U_t_sort U_t_place U_t_value U_t_at U_t_fault U_t_words U_t_codes U_t_shadeDay U_t_sun U_t_isShut U_t_sunny U_t_cost U_t_leastCost U_t_leastEnd U_t_wayOf U_t_wayMany U_t_whereAt U_t_reach U_t_likely U_t_crowdAt U_t_crowdBy U_t_crowdRounds U_t_bestSquare U_t_bestBy U_t_spotsMany U_t_spotAt U_t_followed U_t_followOf U_t_toldMany U_t_toldOf U_t_stepsTo U_t_reachOne U_t_isMarked U_t_markOf : Value) (t_towns : Nat → Int32) (t_facts : Nat → Int32) (t_op : Nat → Int32) (t_pile : Nat → Int32) (t_arg : Nat → Int32) : va_W := [(A_t, ob 12 [U_t_thrown, U_t_tape, U_t_taped, U_t_size, U_t_sort, U_t_place, U_t_value, U_t_at, U_t_fault, U_t_words, .ref A_t_towns, .ref A_t_op, .ref A_t_arg, U_t_codes, .ref A_t_facts, .ref A_t_pile, U_t_shadeDay, U_t_sun, U_t_isShut, U_t_sunny, U_t_cost, U_t_leastCost, U_t_leastEnd, U_t_wayOf, U_t_wayMany, U_t_whereAt, U_t_reach, U_t_likely, U_t_crowdAt, U_t_crowdBy, U_t_crowdRounds, U_t_bestSquare, U_t_bestBy, U_t_spotsMany, U_t_spotAt, U_t_followed, U_t_followOf, U_t_toldMany, U_t_toldOf, U_t_stepsTo, U_t_reachOne, U_t_isMarked, U_t_markOf]), (A_t_towns, aI g 2640 t_towns), (A_t_facts, aI g 2 t_facts), (A_t_op, aI g 6600 t_op), (A_t_pile, aI g 1100 t_pile), (A_t_arg, aI g 6600 t_arg)]
set_option maxRecDepth 20000 in
theorem m_X12_isDim {X : Ctx} (C : Cok X cX12_isDim 5 RX12 (rmL 3) Fz0) {pl : Pool} {A_t A_t_towns A_t_facts A_t_op A_t_pile A_t_arg : Nat} {U_t_thrown U_t_tape U_t_taped U_t_size U_t_sort U_t_place U_t_value U_t_at U_t_fault U_t_words U_t_codes U_t_shadeDay U_t_sun U_t_isShut U_t_sunny U_t_cost U_t_leastCost U_t_leastEnd U_t_wayOf U_t_wayMany U_t_whereAt U_t_reach U_t_likely U_t_crowdAt U_t_crowdBy U_t_crowdRounds U_t_bestSquare U_t_bestBy U_t_spotsMany U_t_spotAt U_t_followed U_t_followOf U_t_toldMany U_t_toldOf U_t_stepsTo U_t_reachOne U_t_isMarked U_t_markOf : Value} {t_towns : Nat → Int32} {t_op : Nat → Int32} {t_arg : Nat → Int32} {t_facts : Nat → Int32} {t_pile : Nat → Int32} {p1 : Int32} {p2 : Int32} {p3 : Int32} {post : Int32 → (Nat → Int32) → (Nat → Int32) → Prop} (hret : ∀ (r : Int32) (w0 : Nat → Int32) (w1 : Nat → Int32) (pc : Nat) (lo : List (Option Value)), b01 r → post r w0 w1 → decode cX12_isDim pc = .ok (.ireturn, 1) → AW X 5 0 0 (w_X12_isDim (cxG X) A_t A_t_towns A_t_facts A_t_op A_t_pile A_t_arg U_t_thrown U_t_tape U_t_taped U_t_size U_t_sort U_t_place U_t_value U_t_at U_t_fault U_t_words U_t_codes U_t_shadeDay U_t_sun U_t_isShut U_t_sunny U_t_cost U_t_leastCost U_t_leastEnd U_t_wayOf U_t_wayMany U_t_whereAt U_t_reach U_t_likely U_t_crowdAt U_t_crowdBy U_t_crowdRounds U_t_bestSquare U_t_bestBy U_t_spotsMany U_t_spotAt U_t_followed U_t_followOf U_t_toldMany U_t_toldOf U_t_stepsTo U_t_reachOne U_t_isMarked U_t_markOf t_towns w0 t_op w1 t_arg) pl pc lo [.int r]) (hw : wp_X12_isDim t_towns t_op t_arg t_facts t_pile p1 p2 p3 post) : AW X 5 0 0 (w_X12_isDim (cxG X) A_t A_t_towns A_t_facts A_t_op A_t_pile A_t_arg U_t_thrown U_t_tape U_t_taped U_t_size U_t_sort U_t_place U_t_value U_t_at U_t_fault U_t_words U_t_codes U_t_shadeDay U_t_sun U_t_isShut U_t_sunny U_t_cost U_t_leastCost U_t_leastEnd U_t_wayOf U_t_wayMany U_t_whereAt U_t_reach U_t_likely U_t_crowdAt U_t_crowdBy U_t_crowdRounds U_t_bestSquare U_t_bestBy U_t_spotsMany U_t_spotAt U_t_followed U_t_followOf U_t_toldMany U_t_toldOf U_t_stepsTo U_t_reachOne U_t_isMarked U_t_markOf t_towns t_facts t_op t_pile t_arg) pl 0 [some (.ref A_t), some (.int p1), some (.int p2), some (.int p3), none] [] := by
  replace hw : wp_X12_sunLine t_towns p1 p2 (fun r3 => (r3 < 0 → (post 1 t_facts t_pile)) ∧ (¬ r3 < 0 → (vp_in p3 2640 ∧ (wp_X12_within (t_towns (Int32.toNatClampNeg p3)) 2 3 (fun r21 => (r21 = 0 → (wp_X12_isClothed t_towns t_op t_arg t_facts t_pile p1 p2 p3 3 (fun r34 t_facts_34 t_pile_34 => (¬ r34 = 0 → (post 1 t_facts_34 t_pile_34)) ∧ (r34 = 0 → (wp_X12_isBehind t_towns p3 r3 (fun r44 => (r44 = 0 → (post 0 t_facts_34 t_pile_34)) ∧ (¬ r44 = 0 → (post 1 t_facts_34 t_pile_34)))))))) ∧ (¬ r21 = 0 → (post 1 t_facts t_pile))))))) := hw
  refine a_aload_n (pc := 0) (i := 0) C dX12_isDim_0 rfl rfl ?_
  refine a_iload_n (pc := 1) (i := 1) C dX12_isDim_1 rfl rfl ?_
  refine a_iload_n (pc := 2) (i := 2) C dX12_isDim_2 rfl rfl ?_
  refine a_callVi (pc := 3) (As := [.int p1, .int p2]) (st := []) (ws' := (fun _ => (w_X12_isDim (cxG X) A_t A_t_towns A_t_facts A_t_op A_t_pile A_t_arg U_t_thrown U_t_tape U_t_taped U_t_size U_t_sort U_t_place U_t_value U_t_at U_t_fault U_t_words U_t_codes U_t_shadeDay U_t_sun U_t_isShut U_t_sunny U_t_cost U_t_leastCost U_t_leastEnd U_t_wayOf U_t_wayMany U_t_whereAt U_t_reach U_t_likely U_t_crowdAt U_t_crowdBy U_t_crowdRounds U_t_bestSquare U_t_bestBy U_t_spotsMany U_t_spotAt U_t_followed U_t_followOf U_t_toldMany U_t_toldOf U_t_stepsTo U_t_reachOne U_t_isMarked U_t_markOf t_towns t_facts t_op t_pile t_arg))) C (c_X12_sunLine A_t A_t_towns U_t_thrown U_t_tape U_t_taped U_t_size U_t_sort U_t_place U_t_value U_t_at U_t_fault U_t_words (.ref A_t_op) (.ref A_t_arg) U_t_codes (.ref A_t_facts) (.ref A_t_pile) U_t_shadeDay U_t_sun U_t_isShut U_t_sunny U_t_cost U_t_leastCost U_t_leastEnd U_t_wayOf U_t_wayMany U_t_whereAt U_t_reach U_t_likely U_t_crowdAt U_t_crowdBy U_t_crowdRounds U_t_bestSquare U_t_bestBy U_t_spotsMany U_t_spotAt U_t_followed U_t_followOf U_t_toldMany U_t_toldOf U_t_stepsTo U_t_reachOne U_t_isMarked U_t_markOf hw) dX12_isDim_3 mth_X12_sunLine tml_X12_293 (fun _ _ h => trivial) Fz0_ok (rml (by decide) (by decide)) (Nat.le_of_ble_eq_true rfl) rfl rfl [0, 1] [2, 3, 4, 5] [4, 5, 0, 1, 2, 3] rfl rfl rfl rfl rfl rfl (ci := 12) rfl ⟨0, _, rfl⟩ (fun _ => rfl) rfl (fun _ => rfl) (fun r3 u hw => ?_)
  show AW X 5 0 0 (w_X12_isDim (cxG X) A_t A_t_towns A_t_facts A_t_op A_t_pile A_t_arg U_t_thrown U_t_tape U_t_taped U_t_size U_t_sort U_t_place U_t_value U_t_at U_t_fault U_t_words U_t_codes U_t_shadeDay U_t_sun U_t_isShut U_t_sunny U_t_cost U_t_leastCost U_t_leastEnd U_t_wayOf U_t_wayMany U_t_whereAt U_t_reach U_t_likely U_t_crowdAt U_t_crowdBy U_t_crowdRounds U_t_bestSquare U_t_bestBy U_t_spotsMany U_t_spotAt U_t_followed U_t_followOf U_t_toldMany U_t_toldOf U_t_stepsTo U_t_reachOne U_t_isMarked U_t_markOf t_towns t_facts t_op t_pile t_arg) pl 6 [some (.ref A_t), some (.int p1), some (.int p2), some (.int p3), none] [.int r3]
  refine s_istore (pc := 6) (i := 4) (lo' := [some (.ref A_t), some (.int p1), some (.int p2), some (.int p3), some (.int r3)]) C dX12_isDim_6 (by decide) rfl rfl ?_
  refine a_iload (pc := 8) (i := 4) C dX12_isDim_8 rfl ?_
  refine a_if_lt (pc := 10) (tgt := 27) C dX12_isDim_10 (by decide) (fun c_10 => ?_) (fun c_10 => ?_)
  · replace hw := hw.1 c_10
    refine a_iconst (pc := 27) C dX12_isDim_27 kc_1 ?_
    exact hret _ _ _ _ _ (Or.inr rfl) hw dX12_isDim_28
  · replace hw := hw.2 c_10
    refine a_aload_n (pc := 13) (i := 0) C dX12_isDim_13 rfl rfl ?_
    refine a_get (pc := 14) C fl_X12_97 dX12_isDim_14 0 rfl rfl ?_
    refine a_iload_n (pc := 17) (i := 3) C dX12_isDim_17 rfl rfl ?_
    obtain ⟨i_18, hw⟩ := hw
    refine a_iald (pc := 18) C dX12_isDim_18 1 rfl i_18 ?_
    refine a_iconst (pc := 19) C dX12_isDim_19 kc_2 ?_
    refine a_iconst (pc := 20) C dX12_isDim_20 kc_3 ?_
    refine a_callSi (pc := 21) (As := [.int (t_towns (Int32.toNatClampNeg p3)), .int 2, .int 3]) (st := []) (ws' := (fun _ => (w_X12_isDim (cxG X) A_t A_t_towns A_t_facts A_t_op A_t_pile A_t_arg U_t_thrown U_t_tape U_t_taped U_t_size U_t_sort U_t_place U_t_value U_t_at U_t_fault U_t_words U_t_codes U_t_shadeDay U_t_sun U_t_isShut U_t_sunny U_t_cost U_t_leastCost U_t_leastEnd U_t_wayOf U_t_wayMany U_t_whereAt U_t_reach U_t_likely U_t_crowdAt U_t_crowdBy U_t_crowdRounds U_t_bestSquare U_t_bestBy U_t_spotsMany U_t_spotAt U_t_followed U_t_followOf U_t_toldMany U_t_toldOf U_t_stepsTo U_t_reachOne U_t_isMarked U_t_markOf t_towns t_facts t_op t_pile t_arg))) C (c_X12_within hw) dX12_isDim_21 mth_X12_within tml_X12_289 (fun _ _ h => trivial) Fz0_ok (rml (by decide) (by decide)) (Nat.le_of_ble_eq_true rfl) rfl rfl [] [0, 1, 2, 3, 4, 5] [0, 1, 2, 3, 4, 5] rfl rfl rfl rfl rfl rfl (fun _ => rfl) rfl (fun _ => rfl) (fun r21 u hw => ?_)
    obtain ⟨z_21, hw⟩ := hw
    show AW X 5 0 0 (w_X12_isDim (cxG X) A_t A_t_towns A_t_facts A_t_op A_t_pile A_t_arg U_t_thrown U_t_tape U_t_taped U_t_size U_t_sort U_t_place U_t_value U_t_at U_t_fault U_t_words U_t_codes U_t_shadeDay U_t_sun U_t_isShut U_t_sunny U_t_cost U_t_leastCost U_t_leastEnd U_t_wayOf U_t_wayMany U_t_whereAt U_t_reach U_t_likely U_t_crowdAt U_t_crowdBy U_t_crowdRounds U_t_bestSquare U_t_bestBy U_t_spotsMany U_t_spotAt U_t_followed U_t_followOf U_t_toldMany U_t_toldOf U_t_stepsTo U_t_reachOne U_t_isMarked U_t_markOf t_towns t_facts t_op t_pile t_arg) pl 24 [some (.ref A_t), some (.int p1), some (.int p2), some (.int p3), some (.int r3)] [.int r21]
    refine a_if_eq (pc := 24) (tgt := 29) C dX12_isDim_24 (by decide) (fun c_24 => ?_) (fun c_24 => ?_)
    · replace hw := hw.1 c_24
      refine a_aload_n (pc := 29) (i := 0) C dX12_isDim_29 rfl rfl ?_
      refine a_iload_n (pc := 30) (i := 1) C dX12_isDim_30 rfl rfl ?_
      refine a_iload_n (pc := 31) (i := 2) C dX12_isDim_31 rfl rfl ?_
      refine a_iload_n (pc := 32) (i := 3) C dX12_isDim_32 rfl rfl ?_
      refine a_iconst (pc := 33) C dX12_isDim_33 kc_3 ?_
      refine a_callVi (pc := 34) (As := [.int p1, .int p2, .int p3, .int 3]) (st := []) (ws' := (fun u => (w_X12_isDim (cxG X) A_t A_t_towns A_t_facts A_t_op A_t_pile A_t_arg U_t_thrown U_t_tape U_t_taped U_t_size U_t_sort U_t_place U_t_value U_t_at U_t_fault U_t_words U_t_codes U_t_shadeDay U_t_sun U_t_isShut U_t_sunny U_t_cost U_t_leastCost U_t_leastEnd U_t_wayOf U_t_wayMany U_t_whereAt U_t_reach U_t_likely U_t_crowdAt U_t_crowdBy U_t_crowdRounds U_t_bestSquare U_t_bestBy U_t_spotsMany U_t_spotAt U_t_followed U_t_followOf U_t_toldMany U_t_toldOf U_t_stepsTo U_t_reachOne U_t_isMarked U_t_markOf t_towns u.1 t_op u.2 t_arg))) C (c_X12_isClothed A_t A_t_facts A_t_towns A_t_op A_t_pile A_t_arg U_t_thrown U_t_tape U_t_taped U_t_size U_t_sort U_t_place U_t_value U_t_at U_t_fault U_t_words U_t_codes U_t_shadeDay U_t_sun U_t_isShut U_t_sunny U_t_cost U_t_leastCost U_t_leastEnd U_t_wayOf U_t_wayMany U_t_whereAt U_t_reach U_t_likely U_t_crowdAt U_t_crowdBy U_t_crowdRounds U_t_bestSquare U_t_bestBy U_t_spotsMany U_t_spotAt U_t_followed U_t_followOf U_t_toldMany U_t_toldOf U_t_stepsTo U_t_reachOne U_t_isMarked U_t_markOf hw) dX12_isDim_34 mth_X12_isClothed tml_X12_296 (fun _ _ h => trivial) Fz0_ok (rml (by decide) (by decide)) (Nat.le_of_ble_eq_true rfl) rfl rfl [0, 2, 1, 3, 4, 5] [] [0, 2, 1, 3, 4, 5] rfl rfl rfl rfl rfl rfl (ci := 12) rfl ⟨0, _, rfl⟩ (fun _ => rfl) rfl (fun _ => rfl) (fun r34 u hw => ?_)
      obtain ⟨z_34, hw⟩ := hw
      obtain ⟨t_facts_34, t_pile_34⟩ := u
      dsimp only at hw
      show AW X 5 0 0 (w_X12_isDim (cxG X) A_t A_t_towns A_t_facts A_t_op A_t_pile A_t_arg U_t_thrown U_t_tape U_t_taped U_t_size U_t_sort U_t_place U_t_value U_t_at U_t_fault U_t_words U_t_codes U_t_shadeDay U_t_sun U_t_isShut U_t_sunny U_t_cost U_t_leastCost U_t_leastEnd U_t_wayOf U_t_wayMany U_t_whereAt U_t_reach U_t_likely U_t_crowdAt U_t_crowdBy U_t_crowdRounds U_t_bestSquare U_t_bestBy U_t_spotsMany U_t_spotAt U_t_followed U_t_followOf U_t_toldMany U_t_toldOf U_t_stepsTo U_t_reachOne U_t_isMarked U_t_markOf t_towns t_facts_34 t_op t_pile_34 t_arg) pl 37 [some (.ref A_t), some (.int p1), some (.int p2), some (.int p3), some (.int r3)] [.int r34]
      refine a_if_ne (pc := 37) (tgt := 50) C dX12_isDim_37 (by decide) (fun c_37 => ?_) (fun c_37 => ?_)
      · replace hw := hw.1 c_37
        refine a_iconst (pc := 50) C dX12_isDim_50 kc_1 ?_
        refine a_goto (pc := 51) (tgt := 55) C dX12_isDim_51 (by decide) ?_
        exact hret _ _ _ _ _ (Or.inr rfl) hw dX12_isDim_55
      · replace hw := hw.2 c_37
        refine a_aload_n (pc := 40) (i := 0) C dX12_isDim_40 rfl rfl ?_
        refine a_iload_n (pc := 41) (i := 3) C dX12_isDim_41 rfl rfl ?_
        refine a_iload (pc := 42) (i := 4) C dX12_isDim_42 rfl ?_
        refine a_callVi (pc := 44) (As := [.int p3, .int r3]) (st := []) (ws' := (fun _ => (w_X12_isDim (cxG X) A_t A_t_towns A_t_facts A_t_op A_t_pile A_t_arg U_t_thrown U_t_tape U_t_taped U_t_size U_t_sort U_t_place U_t_value U_t_at U_t_fault U_t_words U_t_codes U_t_shadeDay U_t_sun U_t_isShut U_t_sunny U_t_cost U_t_leastCost U_t_leastEnd U_t_wayOf U_t_wayMany U_t_whereAt U_t_reach U_t_likely U_t_crowdAt U_t_crowdBy U_t_crowdRounds U_t_bestSquare U_t_bestBy U_t_spotsMany U_t_spotAt U_t_followed U_t_followOf U_t_toldMany U_t_toldOf U_t_stepsTo U_t_reachOne U_t_isMarked U_t_markOf t_towns t_facts_34 t_op t_pile_34 t_arg))) C (c_X12_isBehind A_t A_t_towns U_t_thrown U_t_tape U_t_taped U_t_size U_t_sort U_t_place U_t_value U_t_at U_t_fault U_t_words (.ref A_t_op) (.ref A_t_arg) U_t_codes (.ref A_t_facts) (.ref A_t_pile) U_t_shadeDay U_t_sun U_t_isShut U_t_sunny U_t_cost U_t_leastCost U_t_leastEnd U_t_wayOf U_t_wayMany U_t_whereAt U_t_reach U_t_likely U_t_crowdAt U_t_crowdBy U_t_crowdRounds U_t_bestSquare U_t_bestBy U_t_spotsMany U_t_spotAt U_t_followed U_t_followOf U_t_toldMany U_t_toldOf U_t_stepsTo U_t_reachOne U_t_isMarked U_t_markOf hw) dX12_isDim_44 mth_X12_isBehind tml_X12_300 (fun _ _ h => trivial) Fz0_ok (rml (by decide) (by decide)) (Nat.le_of_ble_eq_true rfl) rfl rfl [0, 1] [2, 3, 4, 5] [4, 5, 0, 1, 2, 3] rfl rfl rfl rfl rfl rfl (ci := 12) rfl ⟨0, _, rfl⟩ (fun _ => rfl) rfl (fun _ => rfl) (fun r44 u hw => ?_)
        obtain ⟨z_44, hw⟩ := hw
        show AW X 5 0 0 (w_X12_isDim (cxG X) A_t A_t_towns A_t_facts A_t_op A_t_pile A_t_arg U_t_thrown U_t_tape U_t_taped U_t_size U_t_sort U_t_place U_t_value U_t_at U_t_fault U_t_words U_t_codes U_t_shadeDay U_t_sun U_t_isShut U_t_sunny U_t_cost U_t_leastCost U_t_leastEnd U_t_wayOf U_t_wayMany U_t_whereAt U_t_reach U_t_likely U_t_crowdAt U_t_crowdBy U_t_crowdRounds U_t_bestSquare U_t_bestBy U_t_spotsMany U_t_spotAt U_t_followed U_t_followOf U_t_toldMany U_t_toldOf U_t_stepsTo U_t_reachOne U_t_isMarked U_t_markOf t_towns t_facts_34 t_op t_pile_34 t_arg) pl 47 [some (.ref A_t), some (.int p1), some (.int p2), some (.int p3), some (.int r3)] [.int r44]
        refine a_if_eq (pc := 47) (tgt := 54) C dX12_isDim_47 (by decide) (fun c_47 => ?_) (fun c_47 => ?_)
        · replace hw := hw.1 c_47
          refine a_iconst (pc := 54) C dX12_isDim_54 kc_0 ?_
          exact hret _ _ _ _ _ (Or.inl rfl) hw dX12_isDim_55
        · replace hw := hw.2 c_47
          refine a_iconst (pc := 50) C dX12_isDim_50 kc_1 ?_
          refine a_goto (pc := 51) (tgt := 55) C dX12_isDim_51 (by decide) ?_
          exact hret _ _ _ _ _ (Or.inr rfl) hw dX12_isDim_55
    · replace hw := hw.2 c_24
      refine a_iconst (pc := 27) C dX12_isDim_27 kc_1 ?_
      exact hret _ _ _ _ _ (Or.inr rfl) hw dX12_isDim_28
theorem c_X12_isDim {l : Launch} {g : GG} {pl : Pool} (A_t A_t_towns A_t_facts A_t_op A_t_pile A_t_arg : Nat) (U_t_thrown U_t_tape U_t_taped U_t_size U_t_sort U_t_place U_t_value U_t_at U_t_fault U_t_words U_t_codes U_t_shadeDay U_t_sun U_t_isShut U_t_sunny U_t_cost U_t_leastCost U_t_leastEnd U_t_wayOf U_t_wayMany U_t_whereAt U_t_reach U_t_likely U_t_crowdAt U_t_crowdBy U_t_crowdRounds U_t_bestSquare U_t_bestBy U_t_spotsMany U_t_spotAt U_t_followed U_t_followOf U_t_toldMany U_t_toldOf U_t_stepsTo U_t_reachOne U_t_isMarked U_t_markOf : Value) {t_towns : Nat → Int32} {t_op : Nat → Int32} {t_arg : Nat → Int32} {t_facts : Nat → Int32} {t_pile : Nat → Int32} {p1 : Int32} {p2 : Int32} {p3 : Int32} {post : Int32 → (Nat → Int32) → (Nat → Int32) → Prop} (hw : wp_X12_isDim t_towns t_op t_arg t_facts t_pile p1 p2 p3 post) : MI l yX12_isDim cX12_isDim 5 (some .boolean) (rmL 3) g Fz0 [.ref A_t, .int p1, .int p2, .int p3] (w_X12_isDim g A_t A_t_towns A_t_facts A_t_op A_t_pile A_t_arg U_t_thrown U_t_tape U_t_taped U_t_size U_t_sort U_t_place U_t_value U_t_at U_t_fault U_t_words U_t_codes U_t_shadeDay U_t_sun U_t_isShut U_t_sunny U_t_cost U_t_leastCost U_t_leastEnd U_t_wayOf U_t_wayMany U_t_whereAt U_t_reach U_t_likely U_t_crowdAt U_t_crowdBy U_t_crowdRounds U_t_bestSquare U_t_bestBy U_t_spotsMany U_t_spotAt U_t_followed U_t_followOf U_t_toldMany U_t_toldOf U_t_stepsTo U_t_reachOne U_t_isMarked U_t_markOf t_towns t_facts t_op t_pile t_arg) pl (fun r (u : (Nat → Int32) × (Nat → Int32)) => b01 r ∧ post r u.1 u.2) (fun u => (w_X12_isDim g A_t A_t_towns A_t_facts A_t_op A_t_pile A_t_arg U_t_thrown U_t_tape U_t_taped U_t_size U_t_sort U_t_place U_t_value U_t_at U_t_fault U_t_words U_t_codes U_t_shadeDay U_t_sun U_t_isShut U_t_sunny U_t_cost U_t_leastCost U_t_leastEnd U_t_wayOf U_t_wayMany U_t_whereAt U_t_reach U_t_likely U_t_crowdAt U_t_crowdBy U_t_crowdRounds U_t_bestSquare U_t_bestBy U_t_spotsMany U_t_spotAt U_t_followed U_t_followOf U_t_toldMany U_t_toldOf U_t_stepsTo U_t_reachOne U_t_isMarked U_t_markOf t_towns u.1 t_op u.2 t_arg)) (fun _ => pl) 0 0 := by
  refine mi_b01 ?_
  refine met_z (own := RX12) rfl rfl (Nat.le_of_ble_eq_true rfl) (fun X hg hl C hini hret => ?_)
  subst hg
  subst hl
  exact m_X12_isDim C (fun r w0 w1 pc lo z hp hd => hret r (w0, w1) pc lo (b01_nar z) hp hd) hw
abbrev w_X12_laysCloth (g : GG) (A_t A_t_facts A_t_towns A_t_op A_t_pile A_t_arg A_t_sun A_t_isShut : Nat) (U_t_thrown U_t_tape U_t_taped U_t_size U_t_sort U_t_place U_t_value U_t_at U_t_fault U_t_words U_t_codes U_t_shadeDay U_t_sunny U_t_cost U_t_leastCost U_t_leastEnd U_t_wayOf U_t_wayMany U_t_whereAt U_t_reach U_t_likely U_t_crowdAt U_t_crowdBy U_t_crowdRounds U_t_bestSquare U_t_bestBy U_t_spotsMany U_t_spotAt U_t_followed U_t_followOf U_t_toldMany U_t_toldOf U_t_stepsTo U_t_reachOne U_t_isMarked U_t_markOf : Value) (t_facts : Nat → Int32) (t_towns : Nat → Int32) (t_op : Nat → Int32) (t_pile : Nat → Int32) (t_arg : Nat → Int32) (t_sun : Nat → Int32) (t_isShut : Nat → Int32) : va_W := [(A_t, ob 12 [U_t_thrown, U_t_tape, U_t_taped, U_t_size, U_t_sort, U_t_place, U_t_value, U_t_at, U_t_fault, U_t_words, .ref A_t_towns, .ref A_t_op, .ref A_t_arg, U_t_codes, .ref A_t_facts, .ref A_t_pile, U_t_shadeDay, .ref A_t_sun, .ref A_t_isShut, U_t_sunny, U_t_cost, U_t_leastCost, U_t_leastEnd, U_t_wayOf, U_t_wayMany, U_t_whereAt, U_t_reach, U_t_likely, U_t_crowdAt, U_t_crowdBy, U_t_crowdRounds, U_t_bestSquare, U_t_bestBy, U_t_spotsMany, U_t_spotAt, U_t_followed, U_t_followOf, U_t_toldMany, U_t_toldOf, U_t_stepsTo, U_t_reachOne, U_t_isMarked, U_t_markOf]), (A_t_facts, aI g 2 t_facts), (A_t_towns, aI g 2640 t_towns), (A_t_op, aI g 6600 t_op), (A_t_pile, aI g 1100 t_pile), (A_t_arg, aI g 6600 t_arg), (A_t_sun, aI g 12000 t_sun), (A_t_isShut, aZ g 12000 t_isShut)]
set_option maxRecDepth 20000 in
theorem m_X12_laysCloth_b79 {X : Ctx} (C : Cok X cX12_laysCloth 5 RX12 (rmL 2) Fz0) {pl : Pool} {A_t A_t_facts A_t_towns A_t_op A_t_pile A_t_arg A_t_sun A_t_isShut : Nat} {U_t_thrown U_t_tape U_t_taped U_t_size U_t_sort U_t_place U_t_value U_t_at U_t_fault U_t_words U_t_codes U_t_shadeDay U_t_sunny U_t_cost U_t_leastCost U_t_leastEnd U_t_wayOf U_t_wayMany U_t_whereAt U_t_reach U_t_likely U_t_crowdAt U_t_crowdBy U_t_crowdRounds U_t_bestSquare U_t_bestBy U_t_spotsMany U_t_spotAt U_t_followed U_t_followOf U_t_toldMany U_t_toldOf U_t_stepsTo U_t_reachOne U_t_isMarked U_t_markOf : Value} {t_towns : Nat → Int32} {t_op : Nat → Int32} {t_arg : Nat → Int32} {post : (Nat → Int32) → (Nat → Int32) → (Nat → Int32) → (Nat → Int32) → Prop} (hret : ∀ (w0 : Nat → Int32) (w1 : Nat → Int32) (w2 : Nat → Int32) (w3 : Nat → Int32) (pc : Nat) (lo : List (Option Value)), post w0 w1 w2 w3 → decode cX12_laysCloth pc = .ok (.return_, 1) → AW X 5 0 0 (w_X12_laysCloth (cxG X) A_t A_t_facts A_t_towns A_t_op A_t_pile A_t_arg A_t_sun A_t_isShut U_t_thrown U_t_tape U_t_taped U_t_size U_t_sort U_t_place U_t_value U_t_at U_t_fault U_t_words U_t_codes U_t_shadeDay U_t_sunny U_t_cost U_t_leastCost U_t_leastEnd U_t_wayOf U_t_wayMany U_t_whereAt U_t_reach U_t_likely U_t_crowdAt U_t_crowdBy U_t_crowdRounds U_t_bestSquare U_t_bestBy U_t_spotsMany U_t_spotAt U_t_followed U_t_followOf U_t_toldMany U_t_toldOf U_t_stepsTo U_t_reachOne U_t_isMarked U_t_markOf w0 t_towns t_op w1 t_arg w2 w3) pl pc lo []) {x_120 : (Nat → Int32) → (Nat → Int32) → (Nat → Int32) → (Nat → Int32) → Prop} {kb : (Nat → Int32) × (Nat → Int32) × (Nat → Int32) × (Nat → Int32) × Int32 × Int32 → Prop} (hkb : ∀ (t_facts : Nat → Int32) (t_pile : Nat → Int32) (t_sun : Nat → Int32) (t_isShut : Nat → Int32) (l2 : Int32) (l3 : Int32) , kb (t_facts, t_pile, t_sun, t_isShut, l2, l3) → AW X 5 0 0 (w_X12_laysCloth (cxG X) A_t A_t_facts A_t_towns A_t_op A_t_pile A_t_arg A_t_sun A_t_isShut U_t_thrown U_t_tape U_t_taped U_t_size U_t_sort U_t_place U_t_value U_t_at U_t_fault U_t_words U_t_codes U_t_shadeDay U_t_sunny U_t_cost U_t_leastCost U_t_leastEnd U_t_wayOf U_t_wayMany U_t_whereAt U_t_reach U_t_likely U_t_crowdAt U_t_crowdBy U_t_crowdRounds U_t_bestSquare U_t_bestBy U_t_spotsMany U_t_spotAt U_t_followed U_t_followOf U_t_toldMany U_t_toldOf U_t_stepsTo U_t_reachOne U_t_isMarked U_t_markOf t_facts t_towns t_op t_pile t_arg t_sun t_isShut) pl 9 [some (.ref A_t), none, some (.int l2), some (.int l3), none] []) (hx_120 : ∀ (t_facts : Nat → Int32) (t_pile : Nat → Int32) (t_sun : Nat → Int32) (t_isShut : Nat → Int32) , x_120 t_facts t_pile t_sun t_isShut → AW X 5 0 0 (w_X12_laysCloth (cxG X) A_t A_t_facts A_t_towns A_t_op A_t_pile A_t_arg A_t_sun A_t_isShut U_t_thrown U_t_tape U_t_taped U_t_size U_t_sort U_t_place U_t_value U_t_at U_t_fault U_t_words U_t_codes U_t_shadeDay U_t_sunny U_t_cost U_t_leastCost U_t_leastEnd U_t_wayOf U_t_wayMany U_t_whereAt U_t_reach U_t_likely U_t_crowdAt U_t_crowdBy U_t_crowdRounds U_t_bestSquare U_t_bestBy U_t_spotsMany U_t_spotAt U_t_followed U_t_followOf U_t_toldMany U_t_toldOf U_t_stepsTo U_t_reachOne U_t_isMarked U_t_markOf t_facts t_towns t_op t_pile t_arg t_sun t_isShut) pl 120 [none, none, none, none, none] []) {t_facts : Nat → Int32} {t_pile : Nat → Int32} {t_sun : Nat → Int32} {t_isShut : Nat → Int32} {l2 : Int32} {l3 : Int32} {l4 : Int32} {s0 : Int32} {s1 : Int32} (hw : wp_X12_laysCloth_b79  x_120 kb t_towns t_op t_arg post t_facts t_pile t_sun t_isShut l2 l3 l4 s0 s1) : AW X 5 0 0 (w_X12_laysCloth (cxG X) A_t A_t_facts A_t_towns A_t_op A_t_pile A_t_arg A_t_sun A_t_isShut U_t_thrown U_t_tape U_t_taped U_t_size U_t_sort U_t_place U_t_value U_t_at U_t_fault U_t_words U_t_codes U_t_shadeDay U_t_sunny U_t_cost U_t_leastCost U_t_leastEnd U_t_wayOf U_t_wayMany U_t_whereAt U_t_reach U_t_likely U_t_crowdAt U_t_crowdBy U_t_crowdRounds U_t_bestSquare U_t_bestBy U_t_spotsMany U_t_spotAt U_t_followed U_t_followOf U_t_toldMany U_t_toldOf U_t_stepsTo U_t_reachOne U_t_isMarked U_t_markOf t_facts t_towns t_op t_pile t_arg t_sun t_isShut) pl 79 [some (.ref A_t), none, some (.int l2), some (.int l3), some (.int l4)] [.int s0, .int s1, .ref A_t_sun] := by
  obtain ⟨i_79, hw⟩ := hw
  refine a_iastW (pc := 79) C (fun h => (w_X12_laysCloth (cxG X) A_t A_t_facts A_t_towns A_t_op A_t_pile A_t_arg A_t_sun A_t_isShut U_t_thrown U_t_tape U_t_taped U_t_size U_t_sort U_t_place U_t_value U_t_at U_t_fault U_t_words U_t_codes U_t_shadeDay U_t_sunny U_t_cost U_t_leastCost U_t_leastEnd U_t_wayOf U_t_wayMany U_t_whereAt U_t_reach U_t_likely U_t_crowdAt U_t_crowdBy U_t_crowdRounds U_t_bestSquare U_t_bestBy U_t_spotsMany U_t_spotAt U_t_followed U_t_followOf U_t_toldMany U_t_toldOf U_t_stepsTo U_t_reachOne U_t_isMarked U_t_markOf t_facts t_towns t_op t_pile t_arg h t_isShut)) dX12_laysCloth_79 6 rfl i_79 (fun _ => rfl) (fun t_sun_79 e_t_sun_79 => ?_)
  replace hw := hw t_sun_79 e_t_sun_79
  refine a_aload_n (pc := 80) (i := 0) C dX12_laysCloth_80 rfl rfl ?_
  refine a_get (pc := 81) C fl_X12_115 dX12_laysCloth_81 0 rfl rfl ?_
  refine a_iload (pc := 84) (i := 4) C dX12_laysCloth_84 rfl ?_
  refine a_aload_n (pc := 86) (i := 0) C dX12_laysCloth_86 rfl rfl ?_
  refine a_get (pc := 87) C fl_X12_115 dX12_laysCloth_87 0 rfl rfl ?_
  refine a_iload (pc := 90) (i := 4) C dX12_laysCloth_90 rfl ?_
  obtain ⟨i_92, hw⟩ := hw
  refine a_zald (pc := 92) C dX12_laysCloth_92 7 rfl i_92 ?_
  refine a_if_ne (pc := 93) (tgt := 108) C dX12_laysCloth_93 (by decide) (fun c_93 => ?_) (fun c_93 => ?_)
  · replace hw := hw.1 c_93
    refine a_iconst (pc := 108) C dX12_laysCloth_108 kc_1 ?_
    refine a_goto (pc := 109) (tgt := 113) C dX12_laysCloth_109 (by decide) ?_
    obtain ⟨i_113, hw⟩ := hw
    refine a_zastW (pc := 113) C (fun h => (w_X12_laysCloth (cxG X) A_t A_t_facts A_t_towns A_t_op A_t_pile A_t_arg A_t_sun A_t_isShut U_t_thrown U_t_tape U_t_taped U_t_size U_t_sort U_t_place U_t_value U_t_at U_t_fault U_t_words U_t_codes U_t_shadeDay U_t_sunny U_t_cost U_t_leastCost U_t_leastEnd U_t_wayOf U_t_wayMany U_t_whereAt U_t_reach U_t_likely U_t_crowdAt U_t_crowdBy U_t_crowdRounds U_t_bestSquare U_t_bestBy U_t_spotsMany U_t_spotAt U_t_followed U_t_followOf U_t_toldMany U_t_toldOf U_t_stepsTo U_t_reachOne U_t_isMarked U_t_markOf t_facts t_towns t_op t_pile t_arg t_sun_79 h)) dX12_laysCloth_113 7 rfl i_113 (fun _ => rfl) (fun t_isShut_113 e_t_isShut_113 => ?_)
    replace hw := hw t_isShut_113 e_t_isShut_113
    refine a_inc (pc := 114) (i := 3) C (fun y => [some (.ref A_t), none, some (.int l2), some (.int y), some (.int l4)]) dX12_laysCloth_114 rfl kc_1 (by decide) rfl (fun _ => rfl) (fun y114 e_y114 => ?_)
    replace hw := hw y114 e_y114
    refine a_goto (pc := 117) (tgt := 9) C dX12_laysCloth_117 (by decide) ?_
    refine a_msk [true, true, true, true, false] rfl ?_
    exact hkb _ _ _ _ _ _ hw
  · replace hw := hw.2 c_93
    refine a_aload_n (pc := 96) (i := 0) C dX12_laysCloth_96 rfl rfl ?_
    refine a_get (pc := 97) C fl_X12_97 dX12_laysCloth_97 0 rfl rfl ?_
    refine a_iload_n (pc := 100) (i := 2) C dX12_laysCloth_100 rfl rfl ?_
    refine a_iconst (pc := 101) C dX12_laysCloth_101 kc_1 ?_
    refine a_iadd (pc := 102) C dX12_laysCloth_102 ?_
    refine a_topi (fun x103 e_x103 => ?_)
    replace hw := hw x103 e_x103
    obtain ⟨i_103, hw⟩ := hw
    refine a_iald (pc := 103) C dX12_laysCloth_103 2 rfl i_103 ?_
    refine a_iconst (pc := 104) C dX12_laysCloth_104 kc_4 ?_
    refine a_icmp_ne (pc := 105) (tgt := 112) C dX12_laysCloth_105 (by decide) (fun c_105 => ?_) (fun c_105 => ?_)
    · replace hw := hw.1 c_105
      refine a_iconst (pc := 112) C dX12_laysCloth_112 kc_0 ?_
      obtain ⟨i_113, hw⟩ := hw
      refine a_zastW (pc := 113) C (fun h => (w_X12_laysCloth (cxG X) A_t A_t_facts A_t_towns A_t_op A_t_pile A_t_arg A_t_sun A_t_isShut U_t_thrown U_t_tape U_t_taped U_t_size U_t_sort U_t_place U_t_value U_t_at U_t_fault U_t_words U_t_codes U_t_shadeDay U_t_sunny U_t_cost U_t_leastCost U_t_leastEnd U_t_wayOf U_t_wayMany U_t_whereAt U_t_reach U_t_likely U_t_crowdAt U_t_crowdBy U_t_crowdRounds U_t_bestSquare U_t_bestBy U_t_spotsMany U_t_spotAt U_t_followed U_t_followOf U_t_toldMany U_t_toldOf U_t_stepsTo U_t_reachOne U_t_isMarked U_t_markOf t_facts t_towns t_op t_pile t_arg t_sun_79 h)) dX12_laysCloth_113 7 rfl i_113 (fun _ => rfl) (fun t_isShut_113 e_t_isShut_113 => ?_)
      replace hw := hw t_isShut_113 e_t_isShut_113
      refine a_inc (pc := 114) (i := 3) C (fun y => [some (.ref A_t), none, some (.int l2), some (.int y), some (.int l4)]) dX12_laysCloth_114 rfl kc_1 (by decide) rfl (fun _ => rfl) (fun y114 e_y114 => ?_)
      replace hw := hw y114 e_y114
      refine a_goto (pc := 117) (tgt := 9) C dX12_laysCloth_117 (by decide) ?_
      refine a_msk [true, true, true, true, false] rfl ?_
      exact hkb _ _ _ _ _ _ hw
    · replace hw := hw.2 c_105
      refine a_iconst (pc := 108) C dX12_laysCloth_108 kc_1 ?_
      refine a_goto (pc := 109) (tgt := 113) C dX12_laysCloth_109 (by decide) ?_
      obtain ⟨i_113, hw⟩ := hw
      refine a_zastW (pc := 113) C (fun h => (w_X12_laysCloth (cxG X) A_t A_t_facts A_t_towns A_t_op A_t_pile A_t_arg A_t_sun A_t_isShut U_t_thrown U_t_tape U_t_taped U_t_size U_t_sort U_t_place U_t_value U_t_at U_t_fault U_t_words U_t_codes U_t_shadeDay U_t_sunny U_t_cost U_t_leastCost U_t_leastEnd U_t_wayOf U_t_wayMany U_t_whereAt U_t_reach U_t_likely U_t_crowdAt U_t_crowdBy U_t_crowdRounds U_t_bestSquare U_t_bestBy U_t_spotsMany U_t_spotAt U_t_followed U_t_followOf U_t_toldMany U_t_toldOf U_t_stepsTo U_t_reachOne U_t_isMarked U_t_markOf t_facts t_towns t_op t_pile t_arg t_sun_79 h)) dX12_laysCloth_113 7 rfl i_113 (fun _ => rfl) (fun t_isShut_113 e_t_isShut_113 => ?_)
      replace hw := hw t_isShut_113 e_t_isShut_113
      refine a_inc (pc := 114) (i := 3) C (fun y => [some (.ref A_t), none, some (.int l2), some (.int y), some (.int l4)]) dX12_laysCloth_114 rfl kc_1 (by decide) rfl (fun _ => rfl) (fun y114 e_y114 => ?_)
      replace hw := hw y114 e_y114
      refine a_goto (pc := 117) (tgt := 9) C dX12_laysCloth_117 (by decide) ?_
      refine a_msk [true, true, true, true, false] rfl ?_
      exact hkb _ _ _ _ _ _ hw
set_option maxRecDepth 20000 in
theorem m_X12_laysCloth_L9 {X : Ctx} (C : Cok X cX12_laysCloth 5 RX12 (rmL 2) Fz0) {pl : Pool} {A_t A_t_facts A_t_towns A_t_op A_t_pile A_t_arg A_t_sun A_t_isShut : Nat} {U_t_thrown U_t_tape U_t_taped U_t_size U_t_sort U_t_place U_t_value U_t_at U_t_fault U_t_words U_t_codes U_t_shadeDay U_t_sunny U_t_cost U_t_leastCost U_t_leastEnd U_t_wayOf U_t_wayMany U_t_whereAt U_t_reach U_t_likely U_t_crowdAt U_t_crowdBy U_t_crowdRounds U_t_bestSquare U_t_bestBy U_t_spotsMany U_t_spotAt U_t_followed U_t_followOf U_t_toldMany U_t_toldOf U_t_stepsTo U_t_reachOne U_t_isMarked U_t_markOf : Value} {t_towns : Nat → Int32} {t_op : Nat → Int32} {t_arg : Nat → Int32} {post : (Nat → Int32) → (Nat → Int32) → (Nat → Int32) → (Nat → Int32) → Prop} (hret : ∀ (w0 : Nat → Int32) (w1 : Nat → Int32) (w2 : Nat → Int32) (w3 : Nat → Int32) (pc : Nat) (lo : List (Option Value)), post w0 w1 w2 w3 → decode cX12_laysCloth pc = .ok (.return_, 1) → AW X 5 0 0 (w_X12_laysCloth (cxG X) A_t A_t_facts A_t_towns A_t_op A_t_pile A_t_arg A_t_sun A_t_isShut U_t_thrown U_t_tape U_t_taped U_t_size U_t_sort U_t_place U_t_value U_t_at U_t_fault U_t_words U_t_codes U_t_shadeDay U_t_sunny U_t_cost U_t_leastCost U_t_leastEnd U_t_wayOf U_t_wayMany U_t_whereAt U_t_reach U_t_likely U_t_crowdAt U_t_crowdBy U_t_crowdRounds U_t_bestSquare U_t_bestBy U_t_spotsMany U_t_spotAt U_t_followed U_t_followOf U_t_toldMany U_t_toldOf U_t_stepsTo U_t_reachOne U_t_isMarked U_t_markOf w0 t_towns t_op w1 t_arg w2 w3) pl pc lo []) {x_120 : (Nat → Int32) → (Nat → Int32) → (Nat → Int32) → (Nat → Int32) → Prop} (hx_120 : ∀ (t_facts : Nat → Int32) (t_pile : Nat → Int32) (t_sun : Nat → Int32) (t_isShut : Nat → Int32) , x_120 t_facts t_pile t_sun t_isShut → AW X 5 0 0 (w_X12_laysCloth (cxG X) A_t A_t_facts A_t_towns A_t_op A_t_pile A_t_arg A_t_sun A_t_isShut U_t_thrown U_t_tape U_t_taped U_t_size U_t_sort U_t_place U_t_value U_t_at U_t_fault U_t_words U_t_codes U_t_shadeDay U_t_sunny U_t_cost U_t_leastCost U_t_leastEnd U_t_wayOf U_t_wayMany U_t_whereAt U_t_reach U_t_likely U_t_crowdAt U_t_crowdBy U_t_crowdRounds U_t_bestSquare U_t_bestBy U_t_spotsMany U_t_spotAt U_t_followed U_t_followOf U_t_toldMany U_t_toldOf U_t_stepsTo U_t_reachOne U_t_isMarked U_t_markOf t_facts t_towns t_op t_pile t_arg t_sun t_isShut) pl 120 [none, none, none, none, none] []) : ∀ (n9 : Nat) (t_facts : Nat → Int32) (t_pile : Nat → Int32) (t_sun : Nat → Int32) (t_isShut : Nat → Int32) (l2 : Int32) (l3 : Int32) , lp (wp_X12_laysCloth_L9 x_120 t_towns t_op t_arg post) n9 (t_facts, t_pile, t_sun, t_isShut, l2, l3) → AW X 5 0 0 (w_X12_laysCloth (cxG X) A_t A_t_facts A_t_towns A_t_op A_t_pile A_t_arg A_t_sun A_t_isShut U_t_thrown U_t_tape U_t_taped U_t_size U_t_sort U_t_place U_t_value U_t_at U_t_fault U_t_words U_t_codes U_t_shadeDay U_t_sunny U_t_cost U_t_leastCost U_t_leastEnd U_t_wayOf U_t_wayMany U_t_whereAt U_t_reach U_t_likely U_t_crowdAt U_t_crowdBy U_t_crowdRounds U_t_bestSquare U_t_bestBy U_t_spotsMany U_t_spotAt U_t_followed U_t_followOf U_t_toldMany U_t_toldOf U_t_stepsTo U_t_reachOne U_t_isMarked U_t_markOf t_facts t_towns t_op t_pile t_arg t_sun t_isShut) pl 9 [some (.ref A_t), none, some (.int l2), some (.int l3), none] [] := by
  intro n9
  induction n9 with
  | zero => exact fun _ _ _ _ _ _ hw => hw.elim
  | succ n9 hkb =>
    intro t_facts t_pile t_sun t_isShut l2 l3 hw
    replace hw : wp_X12_laysCloth_L9 x_120 t_towns t_op t_arg post (lp (wp_X12_laysCloth_L9 x_120 t_towns t_op t_arg post) n9) (t_facts, t_pile, t_sun, t_isShut, l2, l3) := hw
    generalize lp (wp_X12_laysCloth_L9 x_120 t_towns t_op t_arg post) n9 = kb at hw hkb
    refine a_iload_n (pc := 9) (i := 3) C dX12_laysCloth_9 rfl rfl ?_
    refine a_bipush (pc := 10) C dX12_laysCloth_10 kb_120 ?_
    refine a_icmp_ge (pc := 12) (tgt := 120) C dX12_laysCloth_12 (by decide) (fun c_12 => ?_) (fun c_12 => ?_)
    · replace hw := hw.1 c_12
      refine a_msk [false, true, false, false, true] rfl ?_
      exact hx_120 _ _ _ _ hw
    · replace hw := hw.2 c_12
      refine a_aload_n (pc := 15) (i := 0) C dX12_laysCloth_15 rfl rfl ?_
      refine a_get (pc := 16) C fl_X12_106 dX12_laysCloth_16 0 rfl rfl ?_
      refine a_iconst (pc := 19) C dX12_laysCloth_19 kc_0 ?_
      refine a_iload_n (pc := 20) (i := 3) C dX12_laysCloth_20 rfl rfl ?_
      obtain ⟨i_21, hw⟩ := hw
      refine a_iastW (pc := 21) C (fun h => (w_X12_laysCloth (cxG X) A_t A_t_facts A_t_towns A_t_op A_t_pile A_t_arg A_t_sun A_t_isShut U_t_thrown U_t_tape U_t_taped U_t_size U_t_sort U_t_place U_t_value U_t_at U_t_fault U_t_words U_t_codes U_t_shadeDay U_t_sunny U_t_cost U_t_leastCost U_t_leastEnd U_t_wayOf U_t_wayMany U_t_whereAt U_t_reach U_t_likely U_t_crowdAt U_t_crowdBy U_t_crowdRounds U_t_bestSquare U_t_bestBy U_t_spotsMany U_t_spotAt U_t_followed U_t_followOf U_t_toldMany U_t_toldOf U_t_stepsTo U_t_reachOne U_t_isMarked U_t_markOf h t_towns t_op t_pile t_arg t_sun t_isShut)) dX12_laysCloth_21 1 rfl i_21 (fun _ => rfl) (fun t_facts_21 e_t_facts_21 => ?_)
      replace hw := hw t_facts_21 e_t_facts_21
      refine a_bipush (pc := 22) C dX12_laysCloth_22 kb_100 ?_
      refine a_iload_n (pc := 24) (i := 3) C dX12_laysCloth_24 rfl rfl ?_
      refine a_imul (pc := 25) C dX12_laysCloth_25 ?_
      refine a_aload_n (pc := 26) (i := 0) C dX12_laysCloth_26 rfl rfl ?_
      refine a_get (pc := 27) C fl_X12_97 dX12_laysCloth_27 0 rfl rfl ?_
      refine a_iload_n (pc := 30) (i := 2) C dX12_laysCloth_30 rfl rfl ?_
      obtain ⟨i_31, hw⟩ := hw
      refine a_iald (pc := 31) C dX12_laysCloth_31 2 rfl i_31 ?_
      refine a_iadd (pc := 32) C dX12_laysCloth_32 ?_
      refine a_topi (fun x33 e_x33 => ?_)
      replace hw := hw x33 e_x33
      refine s_istore (pc := 33) (i := 4) (lo' := [some (.ref A_t), none, some (.int l2), some (.int l3), some (.int x33)]) C dX12_laysCloth_33 (by decide) rfl rfl ?_
      refine a_aload_n (pc := 35) (i := 0) C dX12_laysCloth_35 rfl rfl ?_
      refine a_aload_n (pc := 36) (i := 0) C dX12_laysCloth_36 rfl rfl ?_
      refine a_get (pc := 37) C fl_X12_97 dX12_laysCloth_37 0 rfl rfl ?_
      refine a_iload_n (pc := 40) (i := 2) C dX12_laysCloth_40 rfl rfl ?_
      refine a_iconst (pc := 41) C dX12_laysCloth_41 kc_2 ?_
      refine a_iadd (pc := 42) C dX12_laysCloth_42 ?_
      refine a_topi (fun x43 e_x43 => ?_)
      replace hw := hw x43 e_x43
      obtain ⟨i_43, hw⟩ := hw
      refine a_iald (pc := 43) C dX12_laysCloth_43 2 rfl i_43 ?_
      refine a_callVi (pc := 44) (As := [.int (t_towns (Int32.toNatClampNeg x43))]) (st := []) (ws' := (fun u => (w_X12_laysCloth (cxG X) A_t A_t_facts A_t_towns A_t_op A_t_pile A_t_arg A_t_sun A_t_isShut U_t_thrown U_t_tape U_t_taped U_t_size U_t_sort U_t_place U_t_value U_t_at U_t_fault U_t_words U_t_codes U_t_shadeDay U_t_sunny U_t_cost U_t_leastCost U_t_leastEnd U_t_wayOf U_t_wayMany U_t_whereAt U_t_reach U_t_likely U_t_crowdAt U_t_crowdBy U_t_crowdRounds U_t_bestSquare U_t_bestBy U_t_spotsMany U_t_spotAt U_t_followed U_t_followOf U_t_toldMany U_t_toldOf U_t_stepsTo U_t_reachOne U_t_isMarked U_t_markOf t_facts_21 t_towns t_op u t_arg t_sun t_isShut))) C (c_X12_worthAt A_t A_t_op A_t_pile A_t_facts A_t_arg U_t_thrown U_t_tape U_t_taped U_t_size U_t_sort U_t_place U_t_value U_t_at U_t_fault U_t_words (.ref A_t_towns) U_t_codes U_t_shadeDay (.ref A_t_sun) (.ref A_t_isShut) U_t_sunny U_t_cost U_t_leastCost U_t_leastEnd U_t_wayOf U_t_wayMany U_t_whereAt U_t_reach U_t_likely U_t_crowdAt U_t_crowdBy U_t_crowdRounds U_t_bestSquare U_t_bestBy U_t_spotsMany U_t_spotAt U_t_followed U_t_followOf U_t_toldMany U_t_toldOf U_t_stepsTo U_t_reachOne U_t_isMarked U_t_markOf hw) dX12_laysCloth_44 mth_X12_worthAt tml_X12_304 (fun _ _ h => trivial) Fz0_ok (rml (by decide) (by decide)) (Nat.le_of_ble_eq_true rfl) rfl rfl [0, 3, 4, 1, 5] [2, 6, 7] [3, 6, 0, 4, 5, 7, 1, 2] rfl rfl rfl rfl rfl rfl (ci := 12) rfl ⟨0, _, rfl⟩ (fun _ => rfl) rfl (fun _ => rfl) (fun r44 u hw => ?_)
      obtain ⟨t_pile_44, rfl⟩ : ∃ z, z = u := ⟨_, rfl⟩
      show AW X 5 0 0 (w_X12_laysCloth (cxG X) A_t A_t_facts A_t_towns A_t_op A_t_pile A_t_arg A_t_sun A_t_isShut U_t_thrown U_t_tape U_t_taped U_t_size U_t_sort U_t_place U_t_value U_t_at U_t_fault U_t_words U_t_codes U_t_shadeDay U_t_sunny U_t_cost U_t_leastCost U_t_leastEnd U_t_wayOf U_t_wayMany U_t_whereAt U_t_reach U_t_likely U_t_crowdAt U_t_crowdBy U_t_crowdRounds U_t_bestSquare U_t_bestBy U_t_spotsMany U_t_spotAt U_t_followed U_t_followOf U_t_toldMany U_t_toldOf U_t_stepsTo U_t_reachOne U_t_isMarked U_t_markOf t_facts_21 t_towns t_op t_pile_44 t_arg t_sun t_isShut) pl 47 [some (.ref A_t), none, some (.int l2), some (.int l3), some (.int x33)] [.int r44]
      refine a_if_eq (pc := 47) (tgt := 114) C dX12_laysCloth_47 (by decide) (fun c_47 => ?_) (fun c_47 => ?_)
      · replace hw := hw.1 c_47
        refine a_inc (pc := 114) (i := 3) C (fun y => [some (.ref A_t), none, some (.int l2), some (.int y), some (.int x33)]) dX12_laysCloth_114 rfl kc_1 (by decide) rfl (fun _ => rfl) (fun y114 e_y114 => ?_)
        replace hw := hw y114 e_y114
        refine a_goto (pc := 117) (tgt := 9) C dX12_laysCloth_117 (by decide) ?_
        refine a_msk [true, true, true, true, false] rfl ?_
        exact hkb _ _ _ _ _ _ hw
      · replace hw := hw.2 c_47
        refine a_aload_n (pc := 50) (i := 0) C dX12_laysCloth_50 rfl rfl ?_
        refine a_get (pc := 51) C fl_X12_112 dX12_laysCloth_51 0 rfl rfl ?_
        refine a_iload (pc := 54) (i := 4) C dX12_laysCloth_54 rfl ?_
        refine a_aload_n (pc := 56) (i := 0) C dX12_laysCloth_56 rfl rfl ?_
        refine a_get (pc := 57) C fl_X12_97 dX12_laysCloth_57 0 rfl rfl ?_
        refine a_iload_n (pc := 60) (i := 2) C dX12_laysCloth_60 rfl rfl ?_
        refine a_iconst (pc := 61) C dX12_laysCloth_61 kc_1 ?_
        refine a_iadd (pc := 62) C dX12_laysCloth_62 ?_
        refine a_topi (fun x63 e_x63 => ?_)
        replace hw := hw x63 e_x63
        obtain ⟨i_63, hw⟩ := hw
        refine a_iald (pc := 63) C dX12_laysCloth_63 2 rfl i_63 ?_
        refine a_iconst (pc := 64) C dX12_laysCloth_64 kc_3 ?_
        refine a_icmp_ne (pc := 65) (tgt := 72) C dX12_laysCloth_65 (by decide) (fun c_65 => ?_) (fun c_65 => ?_)
        · replace hw := hw.1 c_65
          refine a_aload_n (pc := 72) (i := 0) C dX12_laysCloth_72 rfl rfl ?_
          refine a_get (pc := 73) C fl_X12_112 dX12_laysCloth_73 0 rfl rfl ?_
          refine a_iload (pc := 76) (i := 4) C dX12_laysCloth_76 rfl ?_
          obtain ⟨i_78, hw⟩ := hw
          refine a_iald (pc := 78) C dX12_laysCloth_78 6 rfl i_78 ?_
          exact m_X12_laysCloth_b79 C hret (kb := kb) hkb hx_120 hw
        · replace hw := hw.2 c_65
          refine a_iconst (pc := 68) C dX12_laysCloth_68 kc_0 ?_
          refine a_goto (pc := 69) (tgt := 79) C dX12_laysCloth_69 (by decide) ?_
          exact m_X12_laysCloth_b79 C hret (kb := kb) hkb hx_120 hw
set_option maxRecDepth 20000 in
theorem m_X12_laysCloth {X : Ctx} (C : Cok X cX12_laysCloth 5 RX12 (rmL 2) Fz0) {pl : Pool} {A_t A_t_facts A_t_towns A_t_op A_t_pile A_t_arg A_t_sun A_t_isShut : Nat} {U_t_thrown U_t_tape U_t_taped U_t_size U_t_sort U_t_place U_t_value U_t_at U_t_fault U_t_words U_t_codes U_t_shadeDay U_t_sunny U_t_cost U_t_leastCost U_t_leastEnd U_t_wayOf U_t_wayMany U_t_whereAt U_t_reach U_t_likely U_t_crowdAt U_t_crowdBy U_t_crowdRounds U_t_bestSquare U_t_bestBy U_t_spotsMany U_t_spotAt U_t_followed U_t_followOf U_t_toldMany U_t_toldOf U_t_stepsTo U_t_reachOne U_t_isMarked U_t_markOf : Value} {t_towns : Nat → Int32} {t_op : Nat → Int32} {t_arg : Nat → Int32} {t_facts : Nat → Int32} {t_pile : Nat → Int32} {t_sun : Nat → Int32} {t_isShut : Nat → Int32} {p1 : Int32} {p2 : Int32} {post : (Nat → Int32) → (Nat → Int32) → (Nat → Int32) → (Nat → Int32) → Prop} (hret : ∀ (w0 : Nat → Int32) (w1 : Nat → Int32) (w2 : Nat → Int32) (w3 : Nat → Int32) (pc : Nat) (lo : List (Option Value)), post w0 w1 w2 w3 → decode cX12_laysCloth pc = .ok (.return_, 1) → AW X 5 0 0 (w_X12_laysCloth (cxG X) A_t A_t_facts A_t_towns A_t_op A_t_pile A_t_arg A_t_sun A_t_isShut U_t_thrown U_t_tape U_t_taped U_t_size U_t_sort U_t_place U_t_value U_t_at U_t_fault U_t_words U_t_codes U_t_shadeDay U_t_sunny U_t_cost U_t_leastCost U_t_leastEnd U_t_wayOf U_t_wayMany U_t_whereAt U_t_reach U_t_likely U_t_crowdAt U_t_crowdBy U_t_crowdRounds U_t_bestSquare U_t_bestBy U_t_spotsMany U_t_spotAt U_t_followed U_t_followOf U_t_toldMany U_t_toldOf U_t_stepsTo U_t_reachOne U_t_isMarked U_t_markOf w0 t_towns t_op w1 t_arg w2 w3) pl pc lo []) (hw : wp_X12_laysCloth t_towns t_op t_arg t_facts t_pile t_sun t_isShut p1 p2 post) : AW X 5 0 0 (w_X12_laysCloth (cxG X) A_t A_t_facts A_t_towns A_t_op A_t_pile A_t_arg A_t_sun A_t_isShut U_t_thrown U_t_tape U_t_taped U_t_size U_t_sort U_t_place U_t_value U_t_at U_t_fault U_t_words U_t_codes U_t_shadeDay U_t_sunny U_t_cost U_t_leastCost U_t_leastEnd U_t_wayOf U_t_wayMany U_t_whereAt U_t_reach U_t_likely U_t_crowdAt U_t_crowdBy U_t_crowdRounds U_t_bestSquare U_t_bestBy U_t_spotsMany U_t_spotAt U_t_followed U_t_followOf U_t_toldMany U_t_toldOf U_t_stepsTo U_t_reachOne U_t_isMarked U_t_markOf t_facts t_towns t_op t_pile t_arg t_sun t_isShut) pl 0 [some (.ref A_t), some (.int p1), some (.int p2), none, none] [] := by
  refine a_aload_n (pc := 0) (i := 0) C dX12_laysCloth_0 rfl rfl ?_
  refine a_get (pc := 1) C fl_X12_106 dX12_laysCloth_1 0 rfl rfl ?_
  refine a_iconst (pc := 4) C dX12_laysCloth_4 kc_1 ?_
  refine a_iload_n (pc := 5) (i := 1) C dX12_laysCloth_5 rfl rfl ?_
  obtain ⟨i_6, hw⟩ := hw
  refine a_iastW (pc := 6) C (fun h => (w_X12_laysCloth (cxG X) A_t A_t_facts A_t_towns A_t_op A_t_pile A_t_arg A_t_sun A_t_isShut U_t_thrown U_t_tape U_t_taped U_t_size U_t_sort U_t_place U_t_value U_t_at U_t_fault U_t_words U_t_codes U_t_shadeDay U_t_sunny U_t_cost U_t_leastCost U_t_leastEnd U_t_wayOf U_t_wayMany U_t_whereAt U_t_reach U_t_likely U_t_crowdAt U_t_crowdBy U_t_crowdRounds U_t_bestSquare U_t_bestBy U_t_spotsMany U_t_spotAt U_t_followed U_t_followOf U_t_toldMany U_t_toldOf U_t_stepsTo U_t_reachOne U_t_isMarked U_t_markOf h t_towns t_op t_pile t_arg t_sun t_isShut)) dX12_laysCloth_6 1 rfl i_6 (fun _ => rfl) (fun t_facts_6 e_t_facts_6 => ?_)
  replace hw := hw t_facts_6 e_t_facts_6
  refine a_iconst (pc := 7) C dX12_laysCloth_7 kc_0 ?_
  refine s_istore_n (pc := 8) (i := 3) (lo' := [some (.ref A_t), some (.int p1), some (.int p2), some (.int 0), none]) C dX12_laysCloth_8 rfl (by decide) rfl rfl ?_
  refine a_msk [true, false, true, true, true] rfl ?_
  obtain ⟨n9, hw⟩ := hw
  refine m_X12_laysCloth_L9 C hret (fun t_facts t_pile t_sun t_isShut hw => ?_) n9 _ _ _ _ _ _ hw
  exact hret _ _ _ _ _ _ hw dX12_laysCloth_120
theorem c_X12_laysCloth {l : Launch} {g : GG} {pl : Pool} (A_t A_t_facts A_t_towns A_t_op A_t_pile A_t_arg A_t_sun A_t_isShut : Nat) (U_t_thrown U_t_tape U_t_taped U_t_size U_t_sort U_t_place U_t_value U_t_at U_t_fault U_t_words U_t_codes U_t_shadeDay U_t_sunny U_t_cost U_t_leastCost U_t_leastEnd U_t_wayOf U_t_wayMany U_t_whereAt U_t_reach U_t_likely U_t_crowdAt U_t_crowdBy U_t_crowdRounds U_t_bestSquare U_t_bestBy U_t_spotsMany U_t_spotAt U_t_followed U_t_followOf U_t_toldMany U_t_toldOf U_t_stepsTo U_t_reachOne U_t_isMarked U_t_markOf : Value) {t_towns : Nat → Int32} {t_op : Nat → Int32} {t_arg : Nat → Int32} {t_facts : Nat → Int32} {t_pile : Nat → Int32} {t_sun : Nat → Int32} {t_isShut : Nat → Int32} {p1 : Int32} {p2 : Int32} {post : (Nat → Int32) → (Nat → Int32) → (Nat → Int32) → (Nat → Int32) → Prop} (hw : wp_X12_laysCloth t_towns t_op t_arg t_facts t_pile t_sun t_isShut p1 p2 post) : MV l yX12_laysCloth cX12_laysCloth 5 (none : Option Jvm.ClassFile.FieldType) (rmL 2) g Fz0 [.ref A_t, .int p1, .int p2] (w_X12_laysCloth g A_t A_t_facts A_t_towns A_t_op A_t_pile A_t_arg A_t_sun A_t_isShut U_t_thrown U_t_tape U_t_taped U_t_size U_t_sort U_t_place U_t_value U_t_at U_t_fault U_t_words U_t_codes U_t_shadeDay U_t_sunny U_t_cost U_t_leastCost U_t_leastEnd U_t_wayOf U_t_wayMany U_t_whereAt U_t_reach U_t_likely U_t_crowdAt U_t_crowdBy U_t_crowdRounds U_t_bestSquare U_t_bestBy U_t_spotsMany U_t_spotAt U_t_followed U_t_followOf U_t_toldMany U_t_toldOf U_t_stepsTo U_t_reachOne U_t_isMarked U_t_markOf t_facts t_towns t_op t_pile t_arg t_sun t_isShut) pl (fun (u : (Nat → Int32) × (Nat → Int32) × (Nat → Int32) × (Nat → Int32)) => post u.1 u.2.1 u.2.2.1 u.2.2.2) (fun u => (w_X12_laysCloth g A_t A_t_facts A_t_towns A_t_op A_t_pile A_t_arg A_t_sun A_t_isShut U_t_thrown U_t_tape U_t_taped U_t_size U_t_sort U_t_place U_t_value U_t_at U_t_fault U_t_words U_t_codes U_t_shadeDay U_t_sunny U_t_cost U_t_leastCost U_t_leastEnd U_t_wayOf U_t_wayMany U_t_whereAt U_t_reach U_t_likely U_t_crowdAt U_t_crowdBy U_t_crowdRounds U_t_bestSquare U_t_bestBy U_t_spotsMany U_t_spotAt U_t_followed U_t_followOf U_t_toldMany U_t_toldOf U_t_stepsTo U_t_reachOne U_t_isMarked U_t_markOf u.1 t_towns t_op u.2.1 t_arg u.2.2.1 u.2.2.2)) (fun _ => pl) 0 0 := by
  refine met_v (own := RX12) rfl rfl (Nat.le_of_ble_eq_true rfl) (fun X hg hl C hini hret => ?_)
  subst hg
  subst hl
  exact m_X12_laysCloth C (fun w0 w1 w2 w3 pc lo hp hd => hret (w0, w1, w2, w3) pc lo hp hd) hw
