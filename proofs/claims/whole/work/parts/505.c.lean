abbrev w_X7_cast (g : GG) (A_a1 A_a1_words A_t : Nat) (n_a1_words : Nat) (U_t_day U_t_minute : Value) (a1_words : Nat → Int64) (t_direction : Int32) (t_over : Int32) (t_under : Int32) : va_W := [(A_a1, ob 5 [.ref A_a1_words]), (A_a1_words, aJ g n_a1_words a1_words)]
set_option maxRecDepth 20000 in
theorem m_X7_cast_L14 {X : Ctx} {ka : KA} (C : Cok X cX7_cast 7 RX7 (rmL 2) (FzC ka)) {pl : Pool} {A_a1 A_a1_words A_t : Nat} {n_a1_words : Nat} {U_t_day U_t_minute : Value} {t_direction : Int32} {t_over : Int32} {t_under : Int32} {post : (Nat → Int64) → Prop} (hp_t : (A_t, ob 7 [U_t_day, U_t_minute, .int t_direction, .int t_over, .int t_under]) ∈ pl) (hret : ∀ (w0 : Nat → Int64) (pc : Nat) (lo : List (Option Value)), post w0 → decode cX7_cast pc = .ok (.return_, 1) → AW X 7 0 0 (w_X7_cast (cxG X) A_a1 A_a1_words A_t n_a1_words U_t_day U_t_minute w0 t_direction t_over t_under) pl pc lo []) {x_57 : (Nat → Int64) → Prop} (hx_57 : ∀ (a1_words : Nat → Int64) , x_57 a1_words → AW X 7 0 0 (w_X7_cast (cxG X) A_a1 A_a1_words A_t n_a1_words U_t_day U_t_minute a1_words t_direction t_over t_under) pl 57 [none, none, none, none, none, none, none] []) : ∀ (n14 : Nat) (a1_words : Nat → Int64) (l2 : Int32) (l3 : Int32) (l4 : Int32) (l5 : Int32) (l6 : Int32) , lp (wp_X7_cast_L14 x_57 n_a1_words t_direction t_over t_under post) n14 (a1_words, l2, l3, l4, l5, l6) → AW X 7 0 0 (w_X7_cast (cxG X) A_a1 A_a1_words A_t n_a1_words U_t_day U_t_minute a1_words t_direction t_over t_under) pl 14 [some (.ref A_t), some (.ref A_a1), some (.int l2), some (.int l3), some (.int l4), some (.int l5), some (.int l6)] [] := by
  intro n14
  induction n14 with
  | zero => exact fun _ _ _ _ _ _ hw => hw.elim
  | succ n14 hkb =>
    intro a1_words l2 l3 l4 l5 l6 hw
    replace hw : wp_X7_cast_L14 x_57 n_a1_words t_direction t_over t_under post (lp (wp_X7_cast_L14 x_57 n_a1_words t_direction t_over t_under post) n14) (a1_words, l2, l3, l4, l5, l6) := hw
    generalize lp (wp_X7_cast_L14 x_57 n_a1_words t_direction t_over t_under post) n14 = kb at hw hkb
    refine a_iload (pc := 14) (i := 6) C dX7_cast_14 rfl ?_
    refine a_bipush (pc := 16) C dX7_cast_16 kb_10 ?_
    refine a_icmp_ge (pc := 18) (tgt := 57) C dX7_cast_18 (by decide) (fun c_18 => ?_) (fun c_18 => ?_)
    · replace hw := hw.1 c_18
      refine a_msk [false, false, false, false, false, false, false] rfl ?_
      exact hx_57 _ hw
    · replace hw := hw.2 c_18
      refine a_iload (pc := 21) (i := 4) C dX7_cast_21 rfl ?_
      refine a_aload_n (pc := 23) (i := 0) C dX7_cast_23 rfl rfl ?_
      refine a_getP (pc := 24) C fl_X7_24 dX7_cast_24 hp_t rfl ?_
      refine a_imul (pc := 27) C dX7_cast_27 ?_
      refine a_iload (pc := 28) (i := 6) C dX7_cast_28 rfl ?_
      refine a_aload_n (pc := 30) (i := 0) C dX7_cast_30 rfl rfl ?_
      refine a_getP (pc := 31) C fl_X7_21 dX7_cast_31 hp_t rfl ?_
      refine a_imul (pc := 34) C dX7_cast_34 ?_
      refine a_icmp_le (pc := 35) (tgt := 57) C dX7_cast_35 (by decide) (fun c_35 => ?_) (fun c_35 => ?_)
      · replace hw := hw.1 c_35
        refine a_msk [false, false, false, false, false, false, false] rfl ?_
        exact hx_57 _ hw
      · replace hw := hw.2 c_35
        refine a_aload_n (pc := 38) (i := 1) C dX7_cast_38 rfl rfl ?_
        refine a_iload_n (pc := 39) (i := 2) C dX7_cast_39 rfl rfl ?_
        refine a_iload_n (pc := 40) (i := 3) C dX7_cast_40 rfl rfl ?_
        refine a_iload (pc := 41) (i := 5) C dX7_cast_41 rfl ?_
        refine a_iload (pc := 43) (i := 6) C dX7_cast_43 rfl ?_
        refine a_callSNi (pc := 45) (As := [.int l3, .int l5, .int l6]) (st := [.int l2, .ref A_a1]) (ws' := (fun _ => (w_X7_cast (cxG X) A_a1 A_a1_words A_t n_a1_words U_t_day U_t_minute a1_words t_direction t_over t_under))) C (c_X11_away hw) dX7_cast_45 mth_X11_away nl_X7_27 (fun _ _ h => h) (FzC_ok ka) (rml (by decide) (by decide)) (Nat.le_of_ble_eq_true rfl) rfl rfl [] [0, 1] [0, 1] rfl rfl rfl rfl rfl rfl (fun _ => rfl) rfl (fun _ => rfl) (fun r45 u hw => ?_)
        show AW X 7 0 0 (w_X7_cast (cxG X) A_a1 A_a1_words A_t n_a1_words U_t_day U_t_minute a1_words t_direction t_over t_under) pl 48 [some (.ref A_t), some (.ref A_a1), some (.int l2), some (.int l3), some (.int l4), some (.int l5), some (.int l6)] [.int r45, .int l2, .ref A_a1]
        refine a_callVv (pc := 48) (As := [.int l2, .int r45]) (st := []) (ws' := (fun u => (w_X7_cast (cxG X) A_a1 A_a1_words A_t n_a1_words U_t_day U_t_minute u t_direction t_over t_under))) C (c_X5_put A_a1 A_a1_words n_a1_words hw) dX7_cast_48 mth_X5_put tml_X7_31 (fun _ _ h => trivial) Fz0_ok (rml (by decide) (by decide)) (Nat.le_of_ble_eq_true rfl) rfl rfl [0, 1] [] [0, 1] rfl rfl rfl rfl rfl rfl (ci := 5) rfl ⟨0, _, rfl⟩ (fun _ => rfl) rfl (fun _ => rfl) (fun u hw => ?_)
        obtain ⟨a1_words_48, rfl⟩ : ∃ z, z = u := ⟨_, rfl⟩
        show AW X 7 0 0 (w_X7_cast (cxG X) A_a1 A_a1_words A_t n_a1_words U_t_day U_t_minute a1_words_48 t_direction t_over t_under) pl 51 [some (.ref A_t), some (.ref A_a1), some (.int l2), some (.int l3), some (.int l4), some (.int l5), some (.int l6)] []
        refine a_inc (pc := 51) (i := 6) C (fun y => [some (.ref A_t), some (.ref A_a1), some (.int l2), some (.int l3), some (.int l4), some (.int l5), some (.int y)]) dX7_cast_51 rfl kc_1 (by decide) rfl (fun _ => rfl) (fun y51 e_y51 => ?_)
        replace hw := hw y51 e_y51
        refine a_goto (pc := 54) (tgt := 14) C dX7_cast_54 (by decide) ?_
        exact hkb _ _ _ _ _ _ hw
set_option maxRecDepth 20000 in
theorem m_X7_cast {X : Ctx} {ka : KA} (C : Cok X cX7_cast 7 RX7 (rmL 2) (FzC ka)) {pl : Pool} {A_a1 A_a1_words A_t : Nat} {n_a1_words : Nat} {U_t_day U_t_minute : Value} {t_direction : Int32} {t_over : Int32} {t_under : Int32} {a1_words : Nat → Int64} {p2 : Int32} {p3 : Int32} {p4 : Int32} {post : (Nat → Int64) → Prop} (hp_t : (A_t, ob 7 [U_t_day, U_t_minute, .int t_direction, .int t_over, .int t_under]) ∈ pl) (hret : ∀ (w0 : Nat → Int64) (pc : Nat) (lo : List (Option Value)), post w0 → decode cX7_cast pc = .ok (.return_, 1) → AW X 7 0 0 (w_X7_cast (cxG X) A_a1 A_a1_words A_t n_a1_words U_t_day U_t_minute w0 t_direction t_over t_under) pl pc lo []) (hw : wp_X7_cast n_a1_words t_direction t_over t_under a1_words p2 p3 p4 post) : AW X 7 0 0 (w_X7_cast (cxG X) A_a1 A_a1_words A_t n_a1_words U_t_day U_t_minute a1_words t_direction t_over t_under) pl 0 [some (.ref A_t), some (.ref A_a1), some (.int p2), some (.int p3), some (.int p4), none, none] [] := by
  refine a_aload_n (pc := 0) (i := 0) C dX7_cast_0 rfl rfl ?_
  refine a_getP (pc := 1) C fl_X7_18 dX7_cast_1 hp_t rfl ?_
  refine a_iconst (pc := 4) C dX7_cast_4 kc_4 ?_
  refine a_iadd (pc := 5) C dX7_cast_5 ?_
  refine a_bipush (pc := 6) C dX7_cast_6 kb_7 ?_
  refine a_iand (pc := 8) C dX7_cast_8 ?_
  refine a_topi (fun x9 e_x9 => ?_)
  replace hw := hw x9 e_x9
  refine s_istore (pc := 9) (i := 5) (lo' := [some (.ref A_t), some (.ref A_a1), some (.int p2), some (.int p3), some (.int p4), some (.int x9), none]) C dX7_cast_9 (by decide) rfl rfl ?_
  refine a_iconst (pc := 11) C dX7_cast_11 kc_1 ?_
  refine s_istore (pc := 12) (i := 6) (lo' := [some (.ref A_t), some (.ref A_a1), some (.int p2), some (.int p3), some (.int p4), some (.int x9), some (.int 1)]) C dX7_cast_12 (by decide) rfl rfl ?_
  obtain ⟨n14, hw⟩ := hw
  refine m_X7_cast_L14 C hp_t hret (fun a1_words hw => ?_) n14 _ _ _ _ _ _ hw
  exact hret _ _ _ hw dX7_cast_57
theorem c_X7_cast {ka : KA} {l : Launch} {g : GG} {pl : Pool} (A_a1 A_a1_words A_t : Nat) (n_a1_words : Nat) (U_t_day U_t_minute : Value) {t_direction : Int32} {t_over : Int32} {t_under : Int32} {a1_words : Nat → Int64} {p2 : Int32} {p3 : Int32} {p4 : Int32} {post : (Nat → Int64) → Prop} (hp_t : (A_t, ob 7 [U_t_day, U_t_minute, .int t_direction, .int t_over, .int t_under]) ∈ pl) (hw : wp_X7_cast n_a1_words t_direction t_over t_under a1_words p2 p3 p4 post) : MV l yX7_cast cX7_cast 7 (none : Option Jvm.ClassFile.FieldType) (rmL 2) g (FzC ka) [.ref A_t, .ref A_a1, .int p2, .int p3, .int p4] (w_X7_cast g A_a1 A_a1_words A_t n_a1_words U_t_day U_t_minute a1_words t_direction t_over t_under) pl (fun (u : (Nat → Int64)) => post u) (fun u => (w_X7_cast g A_a1 A_a1_words A_t n_a1_words U_t_day U_t_minute u t_direction t_over t_under)) (fun _ => pl) 0 0 := by
  refine met_v (own := RX7) rfl rfl (Nat.le_of_ble_eq_true rfl) (fun X hg hl C hini hret => ?_)
  subst hg
  subst hl
  exact m_X7_cast C hp_t (fun w0 pc lo hp hd => hret w0 pc lo hp hd) hw
