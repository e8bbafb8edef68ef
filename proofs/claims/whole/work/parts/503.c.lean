abbrev w_X2_begin (g : GG) (A_t A_t_code A_t_pending : Nat) (U_t_values U_t_code_items U_t_pending_items : Value) (t_depth : Int32) (t_wantsPart : Int32) (t_code_size : Int32) (t_pending_size : Int32) : va_W := [(A_t, ob 2 [.ref A_t_code, .ref A_t_pending, U_t_values, .int t_depth, .int t_wantsPart]), (A_t_code, ob 0 [U_t_code_items, .int t_code_size]), (A_t_pending, ob 0 [U_t_pending_items, .int t_pending_size])]
set_option maxRecDepth 20000 in
theorem m_X2_begin {X : Ctx} (C : Cok X cX2_begin 1 RX2 (rmL 1) Fz0) {pl : Pool} {A_t A_t_code A_t_pending : Nat} {U_t_values U_t_code_items U_t_pending_items : Value} {t_depth : Int32} {t_wantsPart : Int32} {t_code_size : Int32} {t_pending_size : Int32} {post : Int32 → Int32 → Int32 → Int32 → Prop} (hret : ∀ (w0 : Int32) (w1 : Int32) (w2 : Int32) (w3 : Int32) (pc : Nat) (lo : List (Option Value)), post w0 w1 w2 w3 → decode cX2_begin pc = .ok (.return_, 1) → AW X 1 0 0 (w_X2_begin (cxG X) A_t A_t_code A_t_pending U_t_values U_t_code_items U_t_pending_items w0 w1 w2 w3) pl pc lo []) (hw : wp_X2_begin t_depth t_wantsPart t_code_size t_pending_size post) : AW X 1 0 0 (w_X2_begin (cxG X) A_t A_t_code A_t_pending U_t_values U_t_code_items U_t_pending_items t_depth t_wantsPart t_code_size t_pending_size) pl 0 [some (.ref A_t)] [] := by
  replace hw : wp_X0_empty t_code_size (fun t_code_size_4 => wp_X0_empty t_pending_size (fun t_pending_size_11 => post 0 1 t_code_size_4 t_pending_size_11)) := hw
  refine a_aload_n (pc := 0) (i := 0) C dX2_begin_0 rfl rfl ?_
  refine a_get (pc := 1) C fl_X2_14 dX2_begin_1 0 rfl rfl ?_
  refine a_callVv (pc := 4) (As := []) (st := []) (ws' := (fun u => (w_X2_begin (cxG X) A_t A_t_code A_t_pending U_t_values U_t_code_items U_t_pending_items t_depth t_wantsPart u t_pending_size))) C (c_X0_empty A_t_code U_t_code_items hw) dX2_begin_4 mth_X0_empty tml_X2_27 (fun _ _ h => trivial) Fz0_ok (rml (by decide) (by decide)) (Nat.le_of_ble_eq_true rfl) rfl rfl [1] [0, 2] [0, 2, 1] rfl rfl rfl rfl rfl rfl (ci := 0) rfl ⟨0, _, rfl⟩ (fun _ => rfl) rfl (fun _ => rfl) (fun u hw => ?_)
  obtain ⟨t_code_size_4, rfl⟩ : ∃ z, z = u := ⟨_, rfl⟩
  show AW X 1 0 0 (w_X2_begin (cxG X) A_t A_t_code A_t_pending U_t_values U_t_code_items U_t_pending_items t_depth t_wantsPart t_code_size_4 t_pending_size) pl 7 [some (.ref A_t)] []
  refine a_aload_n (pc := 7) (i := 0) C dX2_begin_7 rfl rfl ?_
  refine a_get (pc := 8) C fl_X2_20 dX2_begin_8 0 rfl rfl ?_
  refine a_callVv (pc := 11) (As := []) (st := []) (ws' := (fun u => (w_X2_begin (cxG X) A_t A_t_code A_t_pending U_t_values U_t_code_items U_t_pending_items t_depth t_wantsPart t_code_size_4 u))) C (c_X0_empty A_t_pending U_t_pending_items hw) dX2_begin_11 mth_X0_empty tml_X2_27 (fun _ _ h => trivial) Fz0_ok (rml (by decide) (by decide)) (Nat.le_of_ble_eq_true rfl) rfl rfl [2] [0, 1] [0, 1, 2] rfl rfl rfl rfl rfl rfl (ci := 0) rfl ⟨0, _, rfl⟩ (fun _ => rfl) rfl (fun _ => rfl) (fun u hw => ?_)
  obtain ⟨t_pending_size_11, rfl⟩ : ∃ z, z = u := ⟨_, rfl⟩
  show AW X 1 0 0 (w_X2_begin (cxG X) A_t A_t_code A_t_pending U_t_values U_t_code_items U_t_pending_items t_depth t_wantsPart t_code_size_4 t_pending_size_11) pl 14 [some (.ref A_t)] []
  refine a_aload_n (pc := 14) (i := 0) C dX2_begin_14 rfl rfl ?_
  refine a_iconst (pc := 15) C dX2_begin_15 kc_0 ?_
  refine a_putW (pc := 16) (ws' := (w_X2_begin (cxG X) A_t A_t_code A_t_pending U_t_values U_t_code_items U_t_pending_items 0 t_wantsPart t_code_size_4 t_pending_size_11)) C fl_X2_30 pu_2_3 dX2_begin_16 0 rfl rfl rfl (Nat.le_of_ble_eq_true rfl) rfl ?_
  refine a_aload_n (pc := 19) (i := 0) C dX2_begin_19 rfl rfl ?_
  refine a_iconst (pc := 20) C dX2_begin_20 kc_1 ?_
  refine a_putW (pc := 21) (ws' := (w_X2_begin (cxG X) A_t A_t_code A_t_pending U_t_values U_t_code_items U_t_pending_items 0 1 t_code_size_4 t_pending_size_11)) C fl_X2_34 pu_2_4 dX2_begin_21 0 rfl rfl rfl (Nat.le_of_ble_eq_true rfl) rfl ?_
  exact hret _ _ _ _ _ _ hw dX2_begin_24
theorem c_X2_begin {l : Launch} {g : GG} {pl : Pool} (A_t A_t_code A_t_pending : Nat) (U_t_values U_t_code_items U_t_pending_items : Value) {t_depth : Int32} {t_wantsPart : Int32} {t_code_size : Int32} {t_pending_size : Int32} {post : Int32 → Int32 → Int32 → Int32 → Prop} (hw : wp_X2_begin t_depth t_wantsPart t_code_size t_pending_size post) : MV l yX2_begin cX2_begin 1 (none : Option Jvm.ClassFile.FieldType) (rmL 1) g Fz0 [.ref A_t] (w_X2_begin g A_t A_t_code A_t_pending U_t_values U_t_code_items U_t_pending_items t_depth t_wantsPart t_code_size t_pending_size) pl (fun (u : Int32 × Int32 × Int32 × Int32) => post u.1 u.2.1 u.2.2.1 u.2.2.2) (fun u => (w_X2_begin g A_t A_t_code A_t_pending U_t_values U_t_code_items U_t_pending_items u.1 u.2.1 u.2.2.1 u.2.2.2)) (fun _ => pl) 0 0 := by
  refine met_v (own := RX2) rfl rfl (Nat.le_of_ble_eq_true rfl) (fun X hg hl C hini hret => ?_)
  subst hg
  subst hl
  exact m_X2_begin C (fun w0 w1 w2 w3 pc lo hp hd => hret (w0, w1, w2, w3) pc lo hp hd) hw
abbrev w_X2_endPart (g : GG) (A_t A_t_pending A_t_pending_items A_t_code A_t_code_items : Nat) (U_t_values : Value) (t_depth : Int32) (t_wantsPart : Int32) (t_pending_size : Int32) (t_pending_items : Nat → Int32) (t_code_size : Int32) (t_code_items : Nat → Int32) : va_W := [(A_t, ob 2 [.ref A_t_code, .ref A_t_pending, U_t_values, .int t_depth, .int t_wantsPart]), (A_t_pending, ob 0 [.ref A_t_pending_items, .int t_pending_size]), (A_t_pending_items, aI g 1000 t_pending_items), (A_t_code, ob 0 [.ref A_t_code_items, .int t_code_size]), (A_t_code_items, aI g 1000 t_code_items)]
set_option maxRecDepth 20000 in
theorem m_X2_endPart_L7 {X : Ctx} (C : Cok X cX2_endPart 2 RX2 (rmL 1) Fz0) {pl : Pool} {A_t A_t_pending A_t_pending_items A_t_code A_t_code_items : Nat} {U_t_values : Value} {t_pending_items : Nat → Int32} {post : Int32 → Int32 → Int32 → Int32 → (Nat → Int32) → Prop} (hret : ∀ (w0 : Int32) (w1 : Int32) (w2 : Int32) (w3 : Int32) (w4 : Nat → Int32) (pc : Nat) (lo : List (Option Value)), post w0 w1 w2 w3 w4 → decode cX2_endPart pc = .ok (.return_, 1) → AW X 2 0 0 (w_X2_endPart (cxG X) A_t A_t_pending A_t_pending_items A_t_code A_t_code_items U_t_values w0 w1 w2 t_pending_items w3 w4) pl pc lo []) {x_57 : Int32 → Int32 → Int32 → Int32 → (Nat → Int32) → Prop} (hx_57 : ∀ (t_depth : Int32) (t_wantsPart : Int32) (t_pending_size : Int32) (t_code_size : Int32) (t_code_items : Nat → Int32) , x_57 t_depth t_wantsPart t_pending_size t_code_size t_code_items → AW X 2 0 0 (w_X2_endPart (cxG X) A_t A_t_pending A_t_pending_items A_t_code A_t_code_items U_t_values t_depth t_wantsPart t_pending_size t_pending_items t_code_size t_code_items) pl 57 [none, none] []) : ∀ (n7 : Nat) (t_depth : Int32) (t_wantsPart : Int32) (t_pending_size : Int32) (t_code_size : Int32) (t_code_items : Nat → Int32) (l1 : Int32) , lp (wp_X2_endPart_L7 x_57 t_pending_items post) n7 (t_depth, t_wantsPart, t_pending_size, t_code_size, t_code_items, l1) → AW X 2 0 0 (w_X2_endPart (cxG X) A_t A_t_pending A_t_pending_items A_t_code A_t_code_items U_t_values t_depth t_wantsPart t_pending_size t_pending_items t_code_size t_code_items) pl 7 [some (.ref A_t), some (.int l1)] [] := by
  intro n7
  induction n7 with
  | zero => exact fun _ _ _ _ _ _ hw => hw.elim
  | succ n7 hkb =>
    intro t_depth t_wantsPart t_pending_size t_code_size t_code_items l1 hw
    replace hw : wp_X2_endPart_L7 x_57 t_pending_items post (lp (wp_X2_endPart_L7 x_57 t_pending_items post) n7) (t_depth, t_wantsPart, t_pending_size, t_code_size, t_code_items, l1) := hw
    generalize lp (wp_X2_endPart_L7 x_57 t_pending_items post) n7 = kb at hw hkb
    refine a_iload_n (pc := 7) (i := 1) C dX2_endPart_7 rfl rfl ?_
    refine a_iconst (pc := 8) C dX2_endPart_8 kc_5 ?_
    refine a_icmp_ge (pc := 9) (tgt := 57) C dX2_endPart_9 (by decide) (fun c_9 => ?_) (fun c_9 => ?_)
    · replace hw := hw.1 c_9
      refine a_msk [false, false] rfl ?_
      exact hx_57 _ _ _ _ _ hw
    · replace hw := hw.2 c_9
      refine a_aload_n (pc := 12) (i := 0) C dX2_endPart_12 rfl rfl ?_
      refine a_get (pc := 13) C fl_X2_20 dX2_endPart_13 0 rfl rfl ?_
      refine a_callVi (pc := 16) (As := []) (st := []) (ws' := (fun _ => (w_X2_endPart (cxG X) A_t A_t_pending A_t_pending_items A_t_code A_t_code_items U_t_values t_depth t_wantsPart t_pending_size t_pending_items t_code_size t_code_items))) C (c_X0_last A_t_pending A_t_pending_items 1000 hw) dX2_endPart_16 mth_X0_last tml_X2_65 (fun _ _ h => trivial) Fz0_ok (rml (by decide) (by decide)) (Nat.le_of_ble_eq_true rfl) rfl rfl [1, 2] [0, 3, 4] [0, 3, 4, 1, 2] rfl rfl rfl rfl rfl rfl (ci := 0) rfl ⟨0, _, rfl⟩ (fun _ => rfl) rfl (fun _ => rfl) (fun r16 u hw => ?_)
      show AW X 2 0 0 (w_X2_endPart (cxG X) A_t A_t_pending A_t_pending_items A_t_code A_t_code_items U_t_values t_depth t_wantsPart t_pending_size t_pending_items t_code_size t_code_items) pl 19 [some (.ref A_t), some (.int l1)] [.int r16]
      refine a_bipush (pc := 19) C dX2_endPart_19 kb_19 ?_
      refine a_icmp_ne (pc := 21) (tgt := 57) C dX2_endPart_21 (by decide) (fun c_21 => ?_) (fun c_21 => ?_)
      · replace hw := hw.1 c_21
        refine a_msk [false, false] rfl ?_
        exact hx_57 _ _ _ _ _ hw
      · replace hw := hw.2 c_21
        refine a_aload_n (pc := 24) (i := 0) C dX2_endPart_24 rfl rfl ?_
        refine a_get (pc := 25) C fl_X2_14 dX2_endPart_25 0 rfl rfl ?_
        refine a_bipush (pc := 28) C dX2_endPart_28 kb_m20 ?_
        refine a_callVi (pc := 30) (As := [.int (-20)]) (st := []) (ws' := (fun u => (w_X2_endPart (cxG X) A_t A_t_pending A_t_pending_items A_t_code A_t_code_items U_t_values t_depth t_wantsPart t_pending_size t_pending_items u.1 u.2))) C (c_X0_add A_t_code A_t_code_items 1000 hw) dX2_endPart_30 mth_X0_add tml_X2_52 (fun _ _ h => trivial) Fz0_ok (rml (by decide) (by decide)) (Nat.le_of_ble_eq_true rfl) rfl rfl [3, 4] [0, 1, 2] [0, 1, 2, 3, 4] rfl rfl rfl rfl rfl rfl (ci := 0) rfl ⟨0, _, rfl⟩ (fun _ => rfl) rfl (fun _ => rfl) (fun r30 u hw => ?_)
        obtain ⟨z_30, hw⟩ := hw
        obtain ⟨t_code_size_30, t_code_items_30⟩ := u
        dsimp only at hw
        show AW X 2 0 0 (w_X2_endPart (cxG X) A_t A_t_pending A_t_pending_items A_t_code A_t_code_items U_t_values t_depth t_wantsPart t_pending_size t_pending_items t_code_size_30 t_code_items_30) pl 33 [some (.ref A_t), some (.int l1)] [.int r30]
        refine a_pop (pc := 33) C dX2_endPart_33 rfl ?_
        refine a_aload_n (pc := 34) (i := 0) C dX2_endPart_34 rfl rfl ?_
        refine a_get (pc := 35) C fl_X2_20 dX2_endPart_35 0 rfl rfl ?_
        refine a_callVv (pc := 38) (As := []) (st := []) (ws' := (fun u => (w_X2_endPart (cxG X) A_t A_t_pending A_t_pending_items A_t_code A_t_code_items U_t_values t_depth t_wantsPart u t_pending_items t_code_size_30 t_code_items_30))) C (c_X0_dropLast A_t_pending (.ref A_t_pending_items) hw) dX2_endPart_38 mth_X0_dropLast tml_X2_68 (fun _ _ h => trivial) Fz0_ok (rml (by decide) (by decide)) (Nat.le_of_ble_eq_true rfl) rfl rfl [1] [0, 2, 3, 4] [0, 4, 1, 2, 3] rfl rfl rfl rfl rfl rfl (ci := 0) rfl ⟨0, _, rfl⟩ (fun _ => rfl) rfl (fun _ => rfl) (fun u hw => ?_)
        obtain ⟨t_pending_size_38, rfl⟩ : ∃ z, z = u := ⟨_, rfl⟩
        show AW X 2 0 0 (w_X2_endPart (cxG X) A_t A_t_pending A_t_pending_items A_t_code A_t_code_items U_t_values t_depth t_wantsPart t_pending_size_38 t_pending_items t_code_size_30 t_code_items_30) pl 41 [some (.ref A_t), some (.int l1)] []
        refine a_aload_n (pc := 41) (i := 0) C dX2_endPart_41 rfl rfl ?_
        refine a_dup (pc := 42) C dX2_endPart_42 rfl ?_
        refine a_get (pc := 43) C fl_X2_30 dX2_endPart_43 0 rfl rfl ?_
        refine a_iconst (pc := 46) C dX2_endPart_46 kc_1 ?_
        refine a_isub (pc := 47) C dX2_endPart_47 ?_
        refine a_topi (fun x48 e_x48 => ?_)
        replace hw := hw x48 e_x48
        refine a_putW (pc := 48) (ws' := (w_X2_endPart (cxG X) A_t A_t_pending A_t_pending_items A_t_code A_t_code_items U_t_values x48 t_wantsPart t_pending_size_38 t_pending_items t_code_size_30 t_code_items_30)) C fl_X2_30 pu_2_3 dX2_endPart_48 0 rfl rfl rfl (Nat.le_of_ble_eq_true rfl) rfl ?_
        refine a_inc (pc := 51) (i := 1) C (fun y => [some (.ref A_t), some (.int y)]) dX2_endPart_51 rfl kc_1 (by decide) rfl (fun _ => rfl) (fun y51 e_y51 => ?_)
        replace hw := hw y51 e_y51
        refine a_goto (pc := 54) (tgt := 7) C dX2_endPart_54 (by decide) ?_
        exact hkb _ _ _ _ _ _ hw
set_option maxRecDepth 20000 in
theorem m_X2_endPart {X : Ctx} (C : Cok X cX2_endPart 2 RX2 (rmL 1) Fz0) {pl : Pool} {A_t A_t_pending A_t_pending_items A_t_code A_t_code_items : Nat} {U_t_values : Value} {t_pending_items : Nat → Int32} {t_depth : Int32} {t_wantsPart : Int32} {t_pending_size : Int32} {t_code_size : Int32} {t_code_items : Nat → Int32} {post : Int32 → Int32 → Int32 → Int32 → (Nat → Int32) → Prop} (hret : ∀ (w0 : Int32) (w1 : Int32) (w2 : Int32) (w3 : Int32) (w4 : Nat → Int32) (pc : Nat) (lo : List (Option Value)), post w0 w1 w2 w3 w4 → decode cX2_endPart pc = .ok (.return_, 1) → AW X 2 0 0 (w_X2_endPart (cxG X) A_t A_t_pending A_t_pending_items A_t_code A_t_code_items U_t_values w0 w1 w2 t_pending_items w3 w4) pl pc lo []) (hw : wp_X2_endPart t_pending_items t_depth t_wantsPart t_pending_size t_code_size t_code_items post) : AW X 2 0 0 (w_X2_endPart (cxG X) A_t A_t_pending A_t_pending_items A_t_code A_t_code_items U_t_values t_depth t_wantsPart t_pending_size t_pending_items t_code_size t_code_items) pl 0 [some (.ref A_t), none] [] := by
  refine a_aload_n (pc := 0) (i := 0) C dX2_endPart_0 rfl rfl ?_
  refine a_iconst (pc := 1) C dX2_endPart_1 kc_0 ?_
  refine a_putW (pc := 2) (ws' := (w_X2_endPart (cxG X) A_t A_t_pending A_t_pending_items A_t_code A_t_code_items U_t_values t_depth 0 t_pending_size t_pending_items t_code_size t_code_items)) C fl_X2_34 pu_2_4 dX2_endPart_2 0 rfl rfl rfl (Nat.le_of_ble_eq_true rfl) rfl ?_
  refine a_iconst (pc := 5) C dX2_endPart_5 kc_0 ?_
  refine s_istore_n (pc := 6) (i := 1) (lo' := [some (.ref A_t), some (.int 0)]) C dX2_endPart_6 rfl (by decide) rfl rfl ?_
  obtain ⟨n7, hw⟩ := hw
  refine m_X2_endPart_L7 C hret (fun t_depth t_wantsPart t_pending_size t_code_size t_code_items hw => ?_) n7 _ _ _ _ _ _ hw
  exact hret _ _ _ _ _ _ _ hw dX2_endPart_57
theorem c_X2_endPart {l : Launch} {g : GG} {pl : Pool} (A_t A_t_pending A_t_pending_items A_t_code A_t_code_items : Nat) (U_t_values : Value) {t_pending_items : Nat → Int32} {t_depth : Int32} {t_wantsPart : Int32} {t_pending_size : Int32} {t_code_size : Int32} {t_code_items : Nat → Int32} {post : Int32 → Int32 → Int32 → Int32 → (Nat → Int32) → Prop} (hw : wp_X2_endPart t_pending_items t_depth t_wantsPart t_pending_size t_code_size t_code_items post) : MV l yX2_endPart cX2_endPart 2 (none : Option Jvm.ClassFile.FieldType) (rmL 1) g Fz0 [.ref A_t] (w_X2_endPart g A_t A_t_pending A_t_pending_items A_t_code A_t_code_items U_t_values t_depth t_wantsPart t_pending_size t_pending_items t_code_size t_code_items) pl (fun (u : Int32 × Int32 × Int32 × Int32 × (Nat → Int32)) => post u.1 u.2.1 u.2.2.1 u.2.2.2.1 u.2.2.2.2) (fun u => (w_X2_endPart g A_t A_t_pending A_t_pending_items A_t_code A_t_code_items U_t_values u.1 u.2.1 u.2.2.1 t_pending_items u.2.2.2.1 u.2.2.2.2)) (fun _ => pl) 0 0 := by
  refine met_v (own := RX2) rfl rfl (Nat.le_of_ble_eq_true rfl) (fun X hg hl C hini hret => ?_)
  subst hg
  subst hl
  exact m_X2_endPart C (fun w0 w1 w2 w3 w4 pc lo hp hd => hret (w0, w1, w2, w3, w4) pc lo hp hd) hw
abbrev w_X2_rank (g : GG) : va_W := []
theorem sw_X2_rank_1 {x : Int32} (h0 : ¬ x = 17) (h1 : ¬ x = 18) (h2 : ¬ x = 19) (h3 : ¬ x = 20) (h4 : ¬ x = 21) (h5 : ¬ x = 22) (h6 : ¬ x = 23) (h7 : ¬ x = 24) (h8 : ¬ x = 25) (h9 : ¬ x = 26) (h10 : ¬ x = 27) (h11 : ¬ x = 28) (h12 : ¬ x = 29) (h13 : ¬ x = 30) (h14 : ¬ x = 31) (h15 : ¬ x = 32) (h16 : ¬ x = 33) (h17 : ¬ x = 34) (h18 : ¬ x = 35) (h19 : ¬ x = 36) (h20 : ¬ x = 37) (h21 : ¬ x = 38) : x.toInt < 17 ∨ 38 < x.toInt := by
  have k0 : x.toInt ≠ 17 := fun z => h0 (Int32.toInt_inj.mp (z.trans (by decide)))
  have k1 : x.toInt ≠ 18 := fun z => h1 (Int32.toInt_inj.mp (z.trans (by decide)))
  have k2 : x.toInt ≠ 19 := fun z => h2 (Int32.toInt_inj.mp (z.trans (by decide)))
  have k3 : x.toInt ≠ 20 := fun z => h3 (Int32.toInt_inj.mp (z.trans (by decide)))
  have k4 : x.toInt ≠ 21 := fun z => h4 (Int32.toInt_inj.mp (z.trans (by decide)))
  have k5 : x.toInt ≠ 22 := fun z => h5 (Int32.toInt_inj.mp (z.trans (by decide)))
  have k6 : x.toInt ≠ 23 := fun z => h6 (Int32.toInt_inj.mp (z.trans (by decide)))
  have k7 : x.toInt ≠ 24 := fun z => h7 (Int32.toInt_inj.mp (z.trans (by decide)))
  have k8 : x.toInt ≠ 25 := fun z => h8 (Int32.toInt_inj.mp (z.trans (by decide)))
  have k9 : x.toInt ≠ 26 := fun z => h9 (Int32.toInt_inj.mp (z.trans (by decide)))
  have k10 : x.toInt ≠ 27 := fun z => h10 (Int32.toInt_inj.mp (z.trans (by decide)))
  have k11 : x.toInt ≠ 28 := fun z => h11 (Int32.toInt_inj.mp (z.trans (by decide)))
  have k12 : x.toInt ≠ 29 := fun z => h12 (Int32.toInt_inj.mp (z.trans (by decide)))
  have k13 : x.toInt ≠ 30 := fun z => h13 (Int32.toInt_inj.mp (z.trans (by decide)))
  have k14 : x.toInt ≠ 31 := fun z => h14 (Int32.toInt_inj.mp (z.trans (by decide)))
  have k15 : x.toInt ≠ 32 := fun z => h15 (Int32.toInt_inj.mp (z.trans (by decide)))
  have k16 : x.toInt ≠ 33 := fun z => h16 (Int32.toInt_inj.mp (z.trans (by decide)))
  have k17 : x.toInt ≠ 34 := fun z => h17 (Int32.toInt_inj.mp (z.trans (by decide)))
  have k18 : x.toInt ≠ 35 := fun z => h18 (Int32.toInt_inj.mp (z.trans (by decide)))
  have k19 : x.toInt ≠ 36 := fun z => h19 (Int32.toInt_inj.mp (z.trans (by decide)))
  have k20 : x.toInt ≠ 37 := fun z => h20 (Int32.toInt_inj.mp (z.trans (by decide)))
  have k21 : x.toInt ≠ 38 := fun z => h21 (Int32.toInt_inj.mp (z.trans (by decide)))
  omega
set_option maxRecDepth 20000 in
theorem m_X2_rank {X : Ctx} (C : Cok X cX2_rank 1 RX2 (rmL 0) Fz0) {pl : Pool} {p0 : Int32} {post : Int32 → Prop} (hret : ∀ (r : Int32) (pc : Nat) (lo : List (Option Value)), post r → decode cX2_rank pc = .ok (.ireturn, 1) → AW X 1 0 0 (w_X2_rank (cxG X)) pl pc lo [.int r]) (hw : wp_X2_rank p0 post) : AW X 1 0 0 (w_X2_rank (cxG X)) pl 0 [some (.int p0)] [] := by
  refine a_iload_n (pc := 0) (i := 0) C dX2_rank_0 rfl rfl ?_
  by_cases c_1_0 : p0 = 17
  · replace hw := hw.1 c_1_0
    refine a_tableIn (pc := 1) (off := 103) (tgt := 104) C dX2_rank_1 (by rw [c_1_0]; decide) (by rw [c_1_0]; decide) (by rw [c_1_0]; rfl) (by decide) ?_
    refine a_iconst (pc := 104) C dX2_rank_104 kc_1 ?_
    exact hret _ _ _ hw dX2_rank_105
  · by_cases c_1_1 : p0 = 18
    · replace hw := hw.2.1 c_1_1
      refine a_tableIn (pc := 1) (off := 103) (tgt := 104) C dX2_rank_1 (by rw [c_1_1]; decide) (by rw [c_1_1]; decide) (by rw [c_1_1]; rfl) (by decide) ?_
      refine a_iconst (pc := 104) C dX2_rank_104 kc_1 ?_
      exact hret _ _ _ hw dX2_rank_105
    · by_cases c_1_2 : p0 = 19
      · replace hw := hw.2.2.1 c_1_2
        refine a_tableIn (pc := 1) (off := 111) (tgt := 112) C dX2_rank_1 (by rw [c_1_2]; decide) (by rw [c_1_2]; decide) (by rw [c_1_2]; rfl) (by decide) ?_
        refine a_iconst (pc := 112) C dX2_rank_112 kc_0 ?_
        exact hret _ _ _ hw dX2_rank_113
      · by_cases c_1_3 : p0 = 20
        · replace hw := hw.2.2.2.1 c_1_3
          refine a_tableIn (pc := 1) (off := 111) (tgt := 112) C dX2_rank_1 (by rw [c_1_3]; decide) (by rw [c_1_3]; decide) (by rw [c_1_3]; rfl) (by decide) ?_
          refine a_iconst (pc := 112) C dX2_rank_112 kc_0 ?_
          exact hret _ _ _ hw dX2_rank_113
        · by_cases c_1_4 : p0 = 21
          · replace hw := hw.2.2.2.2.1 c_1_4
            refine a_tableIn (pc := 1) (off := 111) (tgt := 112) C dX2_rank_1 (by rw [c_1_4]; decide) (by rw [c_1_4]; decide) (by rw [c_1_4]; rfl) (by decide) ?_
            refine a_iconst (pc := 112) C dX2_rank_112 kc_0 ?_
            exact hret _ _ _ hw dX2_rank_113
          · by_cases c_1_5 : p0 = 22
            · replace hw := hw.2.2.2.2.2.1 c_1_5
              refine a_tableIn (pc := 1) (off := 111) (tgt := 112) C dX2_rank_1 (by rw [c_1_5]; decide) (by rw [c_1_5]; decide) (by rw [c_1_5]; rfl) (by decide) ?_
              refine a_iconst (pc := 112) C dX2_rank_112 kc_0 ?_
              exact hret _ _ _ hw dX2_rank_113
            · by_cases c_1_6 : p0 = 23
              · replace hw := hw.2.2.2.2.2.2.1 c_1_6
                refine a_tableIn (pc := 1) (off := 111) (tgt := 112) C dX2_rank_1 (by rw [c_1_6]; decide) (by rw [c_1_6]; decide) (by rw [c_1_6]; rfl) (by decide) ?_
                refine a_iconst (pc := 112) C dX2_rank_112 kc_0 ?_
                exact hret _ _ _ hw dX2_rank_113
              · by_cases c_1_7 : p0 = 24
                · replace hw := hw.2.2.2.2.2.2.2.1 c_1_7
                  refine a_tableIn (pc := 1) (off := 111) (tgt := 112) C dX2_rank_1 (by rw [c_1_7]; decide) (by rw [c_1_7]; decide) (by rw [c_1_7]; rfl) (by decide) ?_
                  refine a_iconst (pc := 112) C dX2_rank_112 kc_0 ?_
                  exact hret _ _ _ hw dX2_rank_113
                · by_cases c_1_8 : p0 = 25
                  · replace hw := hw.2.2.2.2.2.2.2.2.1 c_1_8
                    refine a_tableIn (pc := 1) (off := 111) (tgt := 112) C dX2_rank_1 (by rw [c_1_8]; decide) (by rw [c_1_8]; decide) (by rw [c_1_8]; rfl) (by decide) ?_
                    refine a_iconst (pc := 112) C dX2_rank_112 kc_0 ?_
                    exact hret _ _ _ hw dX2_rank_113
                  · by_cases c_1_9 : p0 = 26
                    · replace hw := hw.2.2.2.2.2.2.2.2.2.1 c_1_9
                      refine a_tableIn (pc := 1) (off := 111) (tgt := 112) C dX2_rank_1 (by rw [c_1_9]; decide) (by rw [c_1_9]; decide) (by rw [c_1_9]; rfl) (by decide) ?_
                      refine a_iconst (pc := 112) C dX2_rank_112 kc_0 ?_
                      exact hret _ _ _ hw dX2_rank_113
                    · by_cases c_1_10 : p0 = 27
                      · replace hw := hw.2.2.2.2.2.2.2.2.2.2.1 c_1_10
                        refine a_tableIn (pc := 1) (off := 111) (tgt := 112) C dX2_rank_1 (by rw [c_1_10]; decide) (by rw [c_1_10]; decide) (by rw [c_1_10]; rfl) (by decide) ?_
                        refine a_iconst (pc := 112) C dX2_rank_112 kc_0 ?_
                        exact hret _ _ _ hw dX2_rank_113
                      · by_cases c_1_11 : p0 = 28
                        · replace hw := hw.2.2.2.2.2.2.2.2.2.2.2.1 c_1_11
                          refine a_tableIn (pc := 1) (off := 111) (tgt := 112) C dX2_rank_1 (by rw [c_1_11]; decide) (by rw [c_1_11]; decide) (by rw [c_1_11]; rfl) (by decide) ?_
                          refine a_iconst (pc := 112) C dX2_rank_112 kc_0 ?_
                          exact hret _ _ _ hw dX2_rank_113
                        · by_cases c_1_12 : p0 = 29
                          · replace hw := hw.2.2.2.2.2.2.2.2.2.2.2.2.1 c_1_12
                            refine a_tableIn (pc := 1) (off := 111) (tgt := 112) C dX2_rank_1 (by rw [c_1_12]; decide) (by rw [c_1_12]; decide) (by rw [c_1_12]; rfl) (by decide) ?_
                            refine a_iconst (pc := 112) C dX2_rank_112 kc_0 ?_
                            exact hret _ _ _ hw dX2_rank_113
                          · by_cases c_1_13 : p0 = 30
                            · replace hw := hw.2.2.2.2.2.2.2.2.2.2.2.2.2.1 c_1_13
                              refine a_tableIn (pc := 1) (off := 111) (tgt := 112) C dX2_rank_1 (by rw [c_1_13]; decide) (by rw [c_1_13]; decide) (by rw [c_1_13]; rfl) (by decide) ?_
                              refine a_iconst (pc := 112) C dX2_rank_112 kc_0 ?_
                              exact hret _ _ _ hw dX2_rank_113
                            · by_cases c_1_14 : p0 = 31
                              · replace hw := hw.2.2.2.2.2.2.2.2.2.2.2.2.2.2.1 c_1_14
                                refine a_tableIn (pc := 1) (off := 111) (tgt := 112) C dX2_rank_1 (by rw [c_1_14]; decide) (by rw [c_1_14]; decide) (by rw [c_1_14]; rfl) (by decide) ?_
                                refine a_iconst (pc := 112) C dX2_rank_112 kc_0 ?_
                                exact hret _ _ _ hw dX2_rank_113
                              · by_cases c_1_15 : p0 = 32
                                · replace hw := hw.2.2.2.2.2.2.2.2.2.2.2.2.2.2.2.1 c_1_15
                                  refine a_tableIn (pc := 1) (off := 111) (tgt := 112) C dX2_rank_1 (by rw [c_1_15]; decide) (by rw [c_1_15]; decide) (by rw [c_1_15]; rfl) (by decide) ?_
                                  refine a_iconst (pc := 112) C dX2_rank_112 kc_0 ?_
                                  exact hret _ _ _ hw dX2_rank_113
                                · by_cases c_1_16 : p0 = 33
                                  · replace hw := hw.2.2.2.2.2.2.2.2.2.2.2.2.2.2.2.2.1 c_1_16
                                    refine a_tableIn (pc := 1) (off := 111) (tgt := 112) C dX2_rank_1 (by rw [c_1_16]; decide) (by rw [c_1_16]; decide) (by rw [c_1_16]; rfl) (by decide) ?_
                                    refine a_iconst (pc := 112) C dX2_rank_112 kc_0 ?_
                                    exact hret _ _ _ hw dX2_rank_113
                                  · by_cases c_1_17 : p0 = 34
                                    · replace hw := hw.2.2.2.2.2.2.2.2.2.2.2.2.2.2.2.2.2.1 c_1_17
                                      refine a_tableIn (pc := 1) (off := 105) (tgt := 106) C dX2_rank_1 (by rw [c_1_17]; decide) (by rw [c_1_17]; decide) (by rw [c_1_17]; rfl) (by decide) ?_
                                      refine a_iconst (pc := 106) C dX2_rank_106 kc_2 ?_
                                      exact hret _ _ _ hw dX2_rank_107
                                    · by_cases c_1_18 : p0 = 35
                                      · replace hw := hw.2.2.2.2.2.2.2.2.2.2.2.2.2.2.2.2.2.2.1 c_1_18
                                        refine a_tableIn (pc := 1) (off := 105) (tgt := 106) C dX2_rank_1 (by rw [c_1_18]; decide) (by rw [c_1_18]; decide) (by rw [c_1_18]; rfl) (by decide) ?_
                                        refine a_iconst (pc := 106) C dX2_rank_106 kc_2 ?_
                                        exact hret _ _ _ hw dX2_rank_107
                                      · by_cases c_1_19 : p0 = 36
                                        · replace hw := hw.2.2.2.2.2.2.2.2.2.2.2.2.2.2.2.2.2.2.2.1 c_1_19
                                          refine a_tableIn (pc := 1) (off := 107) (tgt := 108) C dX2_rank_1 (by rw [c_1_19]; decide) (by rw [c_1_19]; decide) (by rw [c_1_19]; rfl) (by decide) ?_
                                          refine a_iconst (pc := 108) C dX2_rank_108 kc_3 ?_
                                          exact hret _ _ _ hw dX2_rank_109
                                        · by_cases c_1_20 : p0 = 37
                                          · replace hw := hw.2.2.2.2.2.2.2.2.2.2.2.2.2.2.2.2.2.2.2.2.1 c_1_20
                                            refine a_tableIn (pc := 1) (off := 107) (tgt := 108) C dX2_rank_1 (by rw [c_1_20]; decide) (by rw [c_1_20]; decide) (by rw [c_1_20]; rfl) (by decide) ?_
                                            refine a_iconst (pc := 108) C dX2_rank_108 kc_3 ?_
                                            exact hret _ _ _ hw dX2_rank_109
                                          · by_cases c_1_21 : p0 = 38
                                            · replace hw := hw.2.2.2.2.2.2.2.2.2.2.2.2.2.2.2.2.2.2.2.2.2.1 c_1_21
                                              refine a_tableIn (pc := 1) (off := 109) (tgt := 110) C dX2_rank_1 (by rw [c_1_21]; decide) (by rw [c_1_21]; decide) (by rw [c_1_21]; rfl) (by decide) ?_
                                              refine a_iconst (pc := 110) C dX2_rank_110 kc_4 ?_
                                              exact hret _ _ _ hw dX2_rank_111
                                            · replace hw := hw.2.2.2.2.2.2.2.2.2.2.2.2.2.2.2.2.2.2.2.2.2.2 c_1_0 c_1_1 c_1_2 c_1_3 c_1_4 c_1_5 c_1_6 c_1_7 c_1_8 c_1_9 c_1_10 c_1_11 c_1_12 c_1_13 c_1_14 c_1_15 c_1_16 c_1_17 c_1_18 c_1_19 c_1_20 c_1_21
                                              refine a_tableOut (pc := 1) (tgt := 112) C dX2_rank_1 (sw_X2_rank_1 c_1_0 c_1_1 c_1_2 c_1_3 c_1_4 c_1_5 c_1_6 c_1_7 c_1_8 c_1_9 c_1_10 c_1_11 c_1_12 c_1_13 c_1_14 c_1_15 c_1_16 c_1_17 c_1_18 c_1_19 c_1_20 c_1_21) (by decide) ?_
                                              refine a_iconst (pc := 112) C dX2_rank_112 kc_0 ?_
                                              exact hret _ _ _ hw dX2_rank_113
theorem c_X2_rank {l : Launch} {g : GG} {pl : Pool} {p0 : Int32} {post : Int32 → Prop} (hw : wp_X2_rank p0 post) : MI l yX2_rank cX2_rank 1 (some .int) (rmL 0) g Fz0 [.int p0] (w_X2_rank g) pl (fun r (_ : Unit) => post r) (fun _ => (w_X2_rank g)) (fun _ => pl) 0 0 := by
  refine met_i (own := RX2) rfl rfl (Nat.le_of_ble_eq_true rfl) (fun X hg hl C hini hret => ?_)
  subst hg
  subst hl
  exact m_X2_rank C (fun r pc lo hp hd => hret r () pc lo hp hd) hw
abbrev w_X2_settle (g : GG) (A_t A_t_pending A_t_pending_items A_t_code A_t_code_items : Nat) (U_t_values U_t_depth U_t_wantsPart : Value) (t_pending_size : Int32) (t_pending_items : Nat → Int32) (t_code_size : Int32) (t_code_items : Nat → Int32) : va_W := [(A_t, ob 2 [.ref A_t_code, .ref A_t_pending, U_t_values, U_t_depth, U_t_wantsPart]), (A_t_pending, ob 0 [.ref A_t_pending_items, .int t_pending_size]), (A_t_pending_items, aI g 1000 t_pending_items), (A_t_code, ob 0 [.ref A_t_code_items, .int t_code_size]), (A_t_code_items, aI g 1000 t_code_items)]
set_option maxRecDepth 20000 in
theorem m_X2_settle_L2 {X : Ctx} (C : Cok X cX2_settle 3 RX2 (rmL 1) Fz0) {pl : Pool} {A_t A_t_pending A_t_pending_items A_t_code A_t_code_items : Nat} {U_t_values U_t_depth U_t_wantsPart : Value} {t_pending_items : Nat → Int32} {post : Int32 → Int32 → (Nat → Int32) → Prop} (hret : ∀ (w0 : Int32) (w1 : Int32) (w2 : Nat → Int32) (pc : Nat) (lo : List (Option Value)), post w0 w1 w2 → decode cX2_settle pc = .ok (.return_, 1) → AW X 3 0 0 (w_X2_settle (cxG X) A_t A_t_pending A_t_pending_items A_t_code A_t_code_items U_t_values U_t_depth U_t_wantsPart w0 t_pending_items w1 w2) pl pc lo []) {x_53 : Int32 → Int32 → (Nat → Int32) → Prop} (hx_53 : ∀ (t_pending_size : Int32) (t_code_size : Int32) (t_code_items : Nat → Int32) , x_53 t_pending_size t_code_size t_code_items → AW X 3 0 0 (w_X2_settle (cxG X) A_t A_t_pending A_t_pending_items A_t_code A_t_code_items U_t_values U_t_depth U_t_wantsPart t_pending_size t_pending_items t_code_size t_code_items) pl 53 [none, none, none] []) : ∀ (n2 : Nat) (t_pending_size : Int32) (t_code_size : Int32) (t_code_items : Nat → Int32) (l1 : Int32) (l2 : Int32) , lp (wp_X2_settle_L2 x_53 t_pending_items post) n2 (t_pending_size, t_code_size, t_code_items, l1, l2) → AW X 3 0 0 (w_X2_settle (cxG X) A_t A_t_pending A_t_pending_items A_t_code A_t_code_items U_t_values U_t_depth U_t_wantsPart t_pending_size t_pending_items t_code_size t_code_items) pl 2 [some (.ref A_t), some (.int l1), some (.int l2)] [] := by
  intro n2
  induction n2 with
  | zero => exact fun _ _ _ _ _ hw => hw.elim
  | succ n2 hkb =>
    intro t_pending_size t_code_size t_code_items l1 l2 hw
    replace hw : wp_X2_settle_L2 x_53 t_pending_items post (lp (wp_X2_settle_L2 x_53 t_pending_items post) n2) (t_pending_size, t_code_size, t_code_items, l1, l2) := hw
    generalize lp (wp_X2_settle_L2 x_53 t_pending_items post) n2 = kb at hw hkb
    refine a_iload_n (pc := 2) (i := 2) C dX2_settle_2 rfl rfl ?_
    refine a_sipush (pc := 3) C dX2_settle_3 ks_1000 ?_
    refine a_icmp_ge (pc := 6) (tgt := 53) C dX2_settle_6 (by decide) (fun c_6 => ?_) (fun c_6 => ?_)
    · replace hw := hw.1 c_6
      refine a_msk [false, false, false] rfl ?_
      exact hx_53 _ _ _ hw
    · replace hw := hw.2 c_6
      refine a_aload_n (pc := 9) (i := 0) C dX2_settle_9 rfl rfl ?_
      refine a_get (pc := 10) C fl_X2_20 dX2_settle_10 0 rfl rfl ?_
      refine a_callVi (pc := 13) (As := []) (st := []) (ws' := (fun _ => (w_X2_settle (cxG X) A_t A_t_pending A_t_pending_items A_t_code A_t_code_items U_t_values U_t_depth U_t_wantsPart t_pending_size t_pending_items t_code_size t_code_items))) C (c_X0_last A_t_pending A_t_pending_items 1000 hw) dX2_settle_13 mth_X0_last tml_X2_65 (fun _ _ h => trivial) Fz0_ok (rml (by decide) (by decide)) (Nat.le_of_ble_eq_true rfl) rfl rfl [1, 2] [0, 3, 4] [0, 3, 4, 1, 2] rfl rfl rfl rfl rfl rfl (ci := 0) rfl ⟨0, _, rfl⟩ (fun _ => rfl) rfl (fun _ => rfl) (fun r13 u hw => ?_)
      show AW X 3 0 0 (w_X2_settle (cxG X) A_t A_t_pending A_t_pending_items A_t_code A_t_code_items U_t_values U_t_depth U_t_wantsPart t_pending_size t_pending_items t_code_size t_code_items) pl 16 [some (.ref A_t), some (.int l1), some (.int l2)] [.int r13]
      refine a_callSi (pc := 16) (As := [.int r13]) (st := []) (ws' := (fun _ => (w_X2_settle (cxG X) A_t A_t_pending A_t_pending_items A_t_code A_t_code_items U_t_values U_t_depth U_t_wantsPart t_pending_size t_pending_items t_code_size t_code_items))) C (c_X2_rank hw) dX2_settle_16 mth_X2_rank tml_X2_59 (fun _ _ h => trivial) Fz0_ok (rml (by decide) (by decide)) (Nat.le_of_ble_eq_true rfl) rfl rfl [] [0, 1, 2, 3, 4] [0, 1, 2, 3, 4] rfl rfl rfl rfl rfl rfl (fun _ => rfl) rfl (fun _ => rfl) (fun r16 u hw => ?_)
      show AW X 3 0 0 (w_X2_settle (cxG X) A_t A_t_pending A_t_pending_items A_t_code A_t_code_items U_t_values U_t_depth U_t_wantsPart t_pending_size t_pending_items t_code_size t_code_items) pl 19 [some (.ref A_t), some (.int l1), some (.int l2)] [.int r16]
      refine a_iload_n (pc := 19) (i := 1) C dX2_settle_19 rfl rfl ?_
      refine a_icmp_lt (pc := 20) (tgt := 53) C dX2_settle_20 (by decide) (fun c_20 => ?_) (fun c_20 => ?_)
      · replace hw := hw.1 c_20
        refine a_msk [false, false, false] rfl ?_
        exact hx_53 _ _ _ hw
      · replace hw := hw.2 c_20
        refine a_aload_n (pc := 23) (i := 0) C dX2_settle_23 rfl rfl ?_
        refine a_get (pc := 24) C fl_X2_14 dX2_settle_24 0 rfl rfl ?_
        refine a_iconst (pc := 27) C dX2_settle_27 kc_m1 ?_
        refine a_aload_n (pc := 28) (i := 0) C dX2_settle_28 rfl rfl ?_
        refine a_get (pc := 29) C fl_X2_20 dX2_settle_29 0 rfl rfl ?_
        refine a_callVi (pc := 32) (As := []) (st := [.int (-1), .ref A_t_code]) (ws' := (fun _ => (w_X2_settle (cxG X) A_t A_t_pending A_t_pending_items A_t_code A_t_code_items U_t_values U_t_depth U_t_wantsPart t_pending_size t_pending_items t_code_size t_code_items))) C (c_X0_last A_t_pending A_t_pending_items 1000 hw) dX2_settle_32 mth_X0_last tml_X2_65 (fun _ _ h => trivial) Fz0_ok (rml (by decide) (by decide)) (Nat.le_of_ble_eq_true rfl) rfl rfl [1, 2] [0, 3, 4] [0, 3, 4, 1, 2] rfl rfl rfl rfl rfl rfl (ci := 0) rfl ⟨0, _, rfl⟩ (fun _ => rfl) rfl (fun _ => rfl) (fun r32 u hw => ?_)
        show AW X 3 0 0 (w_X2_settle (cxG X) A_t A_t_pending A_t_pending_items A_t_code A_t_code_items U_t_values U_t_depth U_t_wantsPart t_pending_size t_pending_items t_code_size t_code_items) pl 35 [some (.ref A_t), some (.int l1), some (.int l2)] [.int r32, .int (-1), .ref A_t_code]
        refine a_isub (pc := 35) C dX2_settle_35 ?_
        refine a_callVi (pc := 36) (As := [.int ((-1) - r32)]) (st := []) (ws' := (fun u => (w_X2_settle (cxG X) A_t A_t_pending A_t_pending_items A_t_code A_t_code_items U_t_values U_t_depth U_t_wantsPart t_pending_size t_pending_items u.1 u.2))) C (c_X0_add A_t_code A_t_code_items 1000 hw) dX2_settle_36 mth_X0_add tml_X2_52 (fun _ _ h => trivial) Fz0_ok (rml (by decide) (by decide)) (Nat.le_of_ble_eq_true rfl) rfl rfl [3, 4] [0, 1, 2] [0, 1, 2, 3, 4] rfl rfl rfl rfl rfl rfl (ci := 0) rfl ⟨0, _, rfl⟩ (fun _ => rfl) rfl (fun _ => rfl) (fun r36 u hw => ?_)
        obtain ⟨z_36, hw⟩ := hw
        obtain ⟨t_code_size_36, t_code_items_36⟩ := u
        dsimp only at hw
        show AW X 3 0 0 (w_X2_settle (cxG X) A_t A_t_pending A_t_pending_items A_t_code A_t_code_items U_t_values U_t_depth U_t_wantsPart t_pending_size t_pending_items t_code_size_36 t_code_items_36) pl 39 [some (.ref A_t), some (.int l1), some (.int l2)] [.int r36]
        refine a_pop (pc := 39) C dX2_settle_39 rfl ?_
        refine a_aload_n (pc := 40) (i := 0) C dX2_settle_40 rfl rfl ?_
        refine a_get (pc := 41) C fl_X2_20 dX2_settle_41 0 rfl rfl ?_
        refine a_callVv (pc := 44) (As := []) (st := []) (ws' := (fun u => (w_X2_settle (cxG X) A_t A_t_pending A_t_pending_items A_t_code A_t_code_items U_t_values U_t_depth U_t_wantsPart u t_pending_items t_code_size_36 t_code_items_36))) C (c_X0_dropLast A_t_pending (.ref A_t_pending_items) hw) dX2_settle_44 mth_X0_dropLast tml_X2_68 (fun _ _ h => trivial) Fz0_ok (rml (by decide) (by decide)) (Nat.le_of_ble_eq_true rfl) rfl rfl [1] [0, 2, 3, 4] [0, 4, 1, 2, 3] rfl rfl rfl rfl rfl rfl (ci := 0) rfl ⟨0, _, rfl⟩ (fun _ => rfl) rfl (fun _ => rfl) (fun u hw => ?_)
        obtain ⟨t_pending_size_44, rfl⟩ : ∃ z, z = u := ⟨_, rfl⟩
        show AW X 3 0 0 (w_X2_settle (cxG X) A_t A_t_pending A_t_pending_items A_t_code A_t_code_items U_t_values U_t_depth U_t_wantsPart t_pending_size_44 t_pending_items t_code_size_36 t_code_items_36) pl 47 [some (.ref A_t), some (.int l1), some (.int l2)] []
        refine a_inc (pc := 47) (i := 2) C (fun y => [some (.ref A_t), some (.int l1), some (.int y)]) dX2_settle_47 rfl kc_1 (by decide) rfl (fun _ => rfl) (fun y47 e_y47 => ?_)
        replace hw := hw y47 e_y47
        refine a_goto (pc := 50) (tgt := 2) C dX2_settle_50 (by decide) ?_
        exact hkb _ _ _ _ _ hw
set_option maxRecDepth 20000 in
theorem m_X2_settle {X : Ctx} (C : Cok X cX2_settle 3 RX2 (rmL 1) Fz0) {pl : Pool} {A_t A_t_pending A_t_pending_items A_t_code A_t_code_items : Nat} {U_t_values U_t_depth U_t_wantsPart : Value} {t_pending_items : Nat → Int32} {t_pending_size : Int32} {t_code_size : Int32} {t_code_items : Nat → Int32} {p1 : Int32} {post : Int32 → Int32 → (Nat → Int32) → Prop} (hret : ∀ (w0 : Int32) (w1 : Int32) (w2 : Nat → Int32) (pc : Nat) (lo : List (Option Value)), post w0 w1 w2 → decode cX2_settle pc = .ok (.return_, 1) → AW X 3 0 0 (w_X2_settle (cxG X) A_t A_t_pending A_t_pending_items A_t_code A_t_code_items U_t_values U_t_depth U_t_wantsPart w0 t_pending_items w1 w2) pl pc lo []) (hw : wp_X2_settle t_pending_items t_pending_size t_code_size t_code_items p1 post) : AW X 3 0 0 (w_X2_settle (cxG X) A_t A_t_pending A_t_pending_items A_t_code A_t_code_items U_t_values U_t_depth U_t_wantsPart t_pending_size t_pending_items t_code_size t_code_items) pl 0 [some (.ref A_t), some (.int p1), none] [] := by
  refine a_iconst (pc := 0) C dX2_settle_0 kc_0 ?_
  refine s_istore_n (pc := 1) (i := 2) (lo' := [some (.ref A_t), some (.int p1), some (.int 0)]) C dX2_settle_1 rfl (by decide) rfl rfl ?_
  obtain ⟨n2, hw⟩ := hw
  refine m_X2_settle_L2 C hret (fun t_pending_size t_code_size t_code_items hw => ?_) n2 _ _ _ _ _ hw
  exact hret _ _ _ _ _ hw dX2_settle_53
theorem c_X2_settle {l : Launch} {g : GG} {pl : Pool} (A_t A_t_pending A_t_pending_items A_t_code A_t_code_items : Nat) (U_t_values U_t_depth U_t_wantsPart : Value) {t_pending_items : Nat → Int32} {t_pending_size : Int32} {t_code_size : Int32} {t_code_items : Nat → Int32} {p1 : Int32} {post : Int32 → Int32 → (Nat → Int32) → Prop} (hw : wp_X2_settle t_pending_items t_pending_size t_code_size t_code_items p1 post) : MV l yX2_settle cX2_settle 3 (none : Option Jvm.ClassFile.FieldType) (rmL 1) g Fz0 [.ref A_t, .int p1] (w_X2_settle g A_t A_t_pending A_t_pending_items A_t_code A_t_code_items U_t_values U_t_depth U_t_wantsPart t_pending_size t_pending_items t_code_size t_code_items) pl (fun (u : Int32 × Int32 × (Nat → Int32)) => post u.1 u.2.1 u.2.2) (fun u => (w_X2_settle g A_t A_t_pending A_t_pending_items A_t_code A_t_code_items U_t_values U_t_depth U_t_wantsPart u.1 t_pending_items u.2.1 u.2.2)) (fun _ => pl) 0 0 := by
  refine met_v (own := RX2) rfl rfl (Nat.le_of_ble_eq_true rfl) (fun X hg hl C hini hret => ?_)
  subst hg
  subst hl
  exact m_X2_settle C (fun w0 w1 w2 pc lo hp hd => hret (w0, w1, w2) pc lo hp hd) hw
abbrev w_X2_takeClose (g : GG) (A_t A_t_pending A_t_pending_items A_t_code A_t_code_items : Nat) (U_t_values : Value) (t_depth : Int32) (t_wantsPart : Int32) (t_pending_size : Int32) (t_pending_items : Nat → Int32) (t_code_size : Int32) (t_code_items : Nat → Int32) : va_W := [(A_t, ob 2 [.ref A_t_code, .ref A_t_pending, U_t_values, .int t_depth, .int t_wantsPart]), (A_t_pending, ob 0 [.ref A_t_pending_items, .int t_pending_size]), (A_t_pending_items, aI g 1000 t_pending_items), (A_t_code, ob 0 [.ref A_t_code_items, .int t_code_size]), (A_t_code_items, aI g 1000 t_code_items)]
set_option maxRecDepth 20000 in
theorem m_X2_takeClose {X : Ctx} (C : Cok X cX2_takeClose 1 RX2 (rmL 2) Fz0) {pl : Pool} {A_t A_t_pending A_t_pending_items A_t_code A_t_code_items : Nat} {U_t_values : Value} {t_pending_items : Nat → Int32} {t_depth : Int32} {t_wantsPart : Int32} {t_pending_size : Int32} {t_code_size : Int32} {t_code_items : Nat → Int32} {post : Int32 → Int32 → Int32 → Int32 → Int32 → (Nat → Int32) → Prop} (hret : ∀ (r : Int32) (w0 : Int32) (w1 : Int32) (w2 : Int32) (w3 : Int32) (w4 : Nat → Int32) (pc : Nat) (lo : List (Option Value)), post r w0 w1 w2 w3 w4 → decode cX2_takeClose pc = .ok (.ireturn, 1) → AW X 1 0 0 (w_X2_takeClose (cxG X) A_t A_t_pending A_t_pending_items A_t_code A_t_code_items U_t_values w0 w1 w2 t_pending_items w3 w4) pl pc lo [.int r]) (hw : wp_X2_takeClose t_pending_items t_depth t_wantsPart t_pending_size t_code_size t_code_items post) : AW X 1 0 0 (w_X2_takeClose (cxG X) A_t A_t_pending A_t_pending_items A_t_code A_t_code_items U_t_values t_depth t_wantsPart t_pending_size t_pending_items t_code_size t_code_items) pl 0 [some (.ref A_t)] [] := by
  replace hw : wp_X2_settle t_pending_items t_pending_size t_code_size t_code_items 1 (fun t_pending_size_2 t_code_size_2 t_code_items_2 => wp_X0_last 1000 t_pending_size_2 t_pending_items (fun r9 => (r9 = 32 → (wp_X0_dropLast t_pending_size_2 (fun t_pending_size_23 => ∀ x33 : Int32, x33 = (t_depth - 1) → (wp_X2_endPart t_pending_items x33 t_wantsPart t_pending_size_23 t_code_size_2 t_code_items_2 (fun t_depth_37 t_wantsPart_37 t_pending_size_37 t_code_size_37 t_code_items_37 => post 0 t_depth_37 t_wantsPart_37 t_pending_size_37 t_code_size_37 t_code_items_37))))) ∧ (¬ r9 = 32 → (post 1 t_depth t_wantsPart t_pending_size_2 t_code_size_2 t_code_items_2)))) := hw
  refine a_aload_n (pc := 0) (i := 0) C dX2_takeClose_0 rfl rfl ?_
  refine a_iconst (pc := 1) C dX2_takeClose_1 kc_1 ?_
  refine a_callVv (pc := 2) (As := [.int 1]) (st := []) (ws' := (fun u => (w_X2_takeClose (cxG X) A_t A_t_pending A_t_pending_items A_t_code A_t_code_items U_t_values t_depth t_wantsPart u.1 t_pending_items u.2.1 u.2.2))) C (c_X2_settle A_t A_t_pending A_t_pending_items A_t_code A_t_code_items U_t_values (.int t_depth) (.int t_wantsPart) hw) dX2_takeClose_2 mth_X2_settle tml_X2_62 (fun _ _ h => trivial) Fz0_ok (rml (by decide) (by decide)) (Nat.le_of_ble_eq_true rfl) rfl rfl [0, 1, 2, 3, 4] [] [0, 1, 2, 3, 4] rfl rfl rfl rfl rfl rfl (ci := 2) rfl ⟨0, _, rfl⟩ (fun _ => rfl) rfl (fun _ => rfl) (fun u hw => ?_)
  obtain ⟨t_pending_size_2, t_code_size_2, t_code_items_2⟩ := u
  dsimp only at hw
  show AW X 1 0 0 (w_X2_takeClose (cxG X) A_t A_t_pending A_t_pending_items A_t_code A_t_code_items U_t_values t_depth t_wantsPart t_pending_size_2 t_pending_items t_code_size_2 t_code_items_2) pl 5 [some (.ref A_t)] []
  refine a_aload_n (pc := 5) (i := 0) C dX2_takeClose_5 rfl rfl ?_
  refine a_get (pc := 6) C fl_X2_20 dX2_takeClose_6 0 rfl rfl ?_
  refine a_callVi (pc := 9) (As := []) (st := []) (ws' := (fun _ => (w_X2_takeClose (cxG X) A_t A_t_pending A_t_pending_items A_t_code A_t_code_items U_t_values t_depth t_wantsPart t_pending_size_2 t_pending_items t_code_size_2 t_code_items_2))) C (c_X0_last A_t_pending A_t_pending_items 1000 hw) dX2_takeClose_9 mth_X0_last tml_X2_65 (fun _ _ h => trivial) Fz0_ok (rml (by decide) (by decide)) (Nat.le_of_ble_eq_true rfl) rfl rfl [1, 2] [0, 3, 4] [0, 3, 4, 1, 2] rfl rfl rfl rfl rfl rfl (ci := 0) rfl ⟨0, _, rfl⟩ (fun _ => rfl) rfl (fun _ => rfl) (fun r9 u hw => ?_)
  show AW X 1 0 0 (w_X2_takeClose (cxG X) A_t A_t_pending A_t_pending_items A_t_code A_t_code_items U_t_values t_depth t_wantsPart t_pending_size_2 t_pending_items t_code_size_2 t_code_items_2) pl 12 [some (.ref A_t)] [.int r9]
  refine a_bipush (pc := 12) C dX2_takeClose_12 kb_32 ?_
  refine a_icmp_eq (pc := 14) (tgt := 19) C dX2_takeClose_14 (by decide) (fun c_14 => ?_) (fun c_14 => ?_)
  · replace hw := hw.1 c_14
    refine a_aload_n (pc := 19) (i := 0) C dX2_takeClose_19 rfl rfl ?_
    refine a_get (pc := 20) C fl_X2_20 dX2_takeClose_20 0 rfl rfl ?_
    refine a_callVv (pc := 23) (As := []) (st := []) (ws' := (fun u => (w_X2_takeClose (cxG X) A_t A_t_pending A_t_pending_items A_t_code A_t_code_items U_t_values t_depth t_wantsPart u t_pending_items t_code_size_2 t_code_items_2))) C (c_X0_dropLast A_t_pending (.ref A_t_pending_items) hw) dX2_takeClose_23 mth_X0_dropLast tml_X2_68 (fun _ _ h => trivial) Fz0_ok (rml (by decide) (by decide)) (Nat.le_of_ble_eq_true rfl) rfl rfl [1] [0, 2, 3, 4] [0, 4, 1, 2, 3] rfl rfl rfl rfl rfl rfl (ci := 0) rfl ⟨0, _, rfl⟩ (fun _ => rfl) rfl (fun _ => rfl) (fun u hw => ?_)
    obtain ⟨t_pending_size_23, rfl⟩ : ∃ z, z = u := ⟨_, rfl⟩
    show AW X 1 0 0 (w_X2_takeClose (cxG X) A_t A_t_pending A_t_pending_items A_t_code A_t_code_items U_t_values t_depth t_wantsPart t_pending_size_23 t_pending_items t_code_size_2 t_code_items_2) pl 26 [some (.ref A_t)] []
    refine a_aload_n (pc := 26) (i := 0) C dX2_takeClose_26 rfl rfl ?_
    refine a_dup (pc := 27) C dX2_takeClose_27 rfl ?_
    refine a_get (pc := 28) C fl_X2_30 dX2_takeClose_28 0 rfl rfl ?_
    refine a_iconst (pc := 31) C dX2_takeClose_31 kc_1 ?_
    refine a_isub (pc := 32) C dX2_takeClose_32 ?_
    refine a_topi (fun x33 e_x33 => ?_)
    replace hw := hw x33 e_x33
    refine a_putW (pc := 33) (ws' := (w_X2_takeClose (cxG X) A_t A_t_pending A_t_pending_items A_t_code A_t_code_items U_t_values x33 t_wantsPart t_pending_size_23 t_pending_items t_code_size_2 t_code_items_2)) C fl_X2_30 pu_2_3 dX2_takeClose_33 0 rfl rfl rfl (Nat.le_of_ble_eq_true rfl) rfl ?_
    refine a_aload_n (pc := 36) (i := 0) C dX2_takeClose_36 rfl rfl ?_
    refine a_callVv (pc := 37) (As := []) (st := []) (ws' := (fun u => (w_X2_takeClose (cxG X) A_t A_t_pending A_t_pending_items A_t_code A_t_code_items U_t_values u.1 u.2.1 u.2.2.1 t_pending_items u.2.2.2.1 u.2.2.2.2))) C (c_X2_endPart A_t A_t_pending A_t_pending_items A_t_code A_t_code_items U_t_values hw) dX2_takeClose_37 mth_X2_endPart tml_X2_56 (fun _ _ h => trivial) Fz0_ok (rml (by decide) (by decide)) (Nat.le_of_ble_eq_true rfl) rfl rfl [0, 1, 2, 3, 4] [] [0, 1, 2, 3, 4] rfl rfl rfl rfl rfl rfl (ci := 2) rfl ⟨0, _, rfl⟩ (fun _ => rfl) rfl (fun _ => rfl) (fun u hw => ?_)
    obtain ⟨t_depth_37, t_wantsPart_37, t_pending_size_37, t_code_size_37, t_code_items_37⟩ := u
    dsimp only at hw
    show AW X 1 0 0 (w_X2_takeClose (cxG X) A_t A_t_pending A_t_pending_items A_t_code A_t_code_items U_t_values t_depth_37 t_wantsPart_37 t_pending_size_37 t_pending_items t_code_size_37 t_code_items_37) pl 40 [some (.ref A_t)] []
    refine a_iconst (pc := 40) C dX2_takeClose_40 kc_0 ?_
    exact hret _ _ _ _ _ _ _ _ hw dX2_takeClose_41
  · replace hw := hw.2 c_14
    refine a_iconst (pc := 17) C dX2_takeClose_17 kc_1 ?_
    exact hret _ _ _ _ _ _ _ _ hw dX2_takeClose_18
theorem c_X2_takeClose {l : Launch} {g : GG} {pl : Pool} (A_t A_t_pending A_t_pending_items A_t_code A_t_code_items : Nat) (U_t_values : Value) {t_pending_items : Nat → Int32} {t_depth : Int32} {t_wantsPart : Int32} {t_pending_size : Int32} {t_code_size : Int32} {t_code_items : Nat → Int32} {post : Int32 → Int32 → Int32 → Int32 → Int32 → (Nat → Int32) → Prop} (hw : wp_X2_takeClose t_pending_items t_depth t_wantsPart t_pending_size t_code_size t_code_items post) : MI l yX2_takeClose cX2_takeClose 1 (some .int) (rmL 2) g Fz0 [.ref A_t] (w_X2_takeClose g A_t A_t_pending A_t_pending_items A_t_code A_t_code_items U_t_values t_depth t_wantsPart t_pending_size t_pending_items t_code_size t_code_items) pl (fun r (u : Int32 × Int32 × Int32 × Int32 × (Nat → Int32)) => post r u.1 u.2.1 u.2.2.1 u.2.2.2.1 u.2.2.2.2) (fun u => (w_X2_takeClose g A_t A_t_pending A_t_pending_items A_t_code A_t_code_items U_t_values u.1 u.2.1 u.2.2.1 t_pending_items u.2.2.2.1 u.2.2.2.2)) (fun _ => pl) 0 0 := by
  refine met_i (own := RX2) rfl rfl (Nat.le_of_ble_eq_true rfl) (fun X hg hl C hini hret => ?_)
  subst hg
  subst hl
  exact m_X2_takeClose C (fun r w0 w1 w2 w3 w4 pc lo hp hd => hret r (w0, w1, w2, w3, w4) pc lo hp hd) hw
abbrev w_X2_takeLink (g : GG) (A_t A_t_pending A_t_pending_items A_t_code A_t_code_items : Nat) (U_t_values U_t_depth : Value) (t_wantsPart : Int32) (t_pending_size : Int32) (t_pending_items : Nat → Int32) (t_code_size : Int32) (t_code_items : Nat → Int32) : va_W := [(A_t, ob 2 [.ref A_t_code, .ref A_t_pending, U_t_values, U_t_depth, .int t_wantsPart]), (A_t_pending, ob 0 [.ref A_t_pending_items, .int t_pending_size]), (A_t_pending_items, aI g 1000 t_pending_items), (A_t_code, ob 0 [.ref A_t_code_items, .int t_code_size]), (A_t_code_items, aI g 1000 t_code_items)]
set_option maxRecDepth 20000 in
theorem m_X2_takeLink_b46 {X : Ctx} (C : Cok X cX2_takeLink 3 RX2 (rmL 2) Fz0) {pl : Pool} {A_t A_t_pending A_t_pending_items A_t_code A_t_code_items : Nat} {U_t_values U_t_depth : Value} {post : Int32 → Int32 → Int32 → (Nat → Int32) → Int32 → (Nat → Int32) → Prop} (hret : ∀ (r : Int32) (w0 : Int32) (w1 : Int32) (w2 : Nat → Int32) (w3 : Int32) (w4 : Nat → Int32) (pc : Nat) (lo : List (Option Value)), post r w0 w1 w2 w3 w4 → decode cX2_takeLink pc = .ok (.ireturn, 1) → AW X 3 0 0 (w_X2_takeLink (cxG X) A_t A_t_pending A_t_pending_items A_t_code A_t_code_items U_t_values U_t_depth w0 w1 w2 w3 w4) pl pc lo [.int r]) {t_wantsPart : Int32} {t_pending_size : Int32} {t_pending_items : Nat → Int32} {t_code_size : Int32} {t_code_items : Nat → Int32} {l1 : Int32} (hw : wp_X2_takeLink_b46  post t_wantsPart t_pending_size t_pending_items t_code_size t_code_items l1) : AW X 3 0 0 (w_X2_takeLink (cxG X) A_t A_t_pending A_t_pending_items A_t_code A_t_code_items U_t_values U_t_depth t_wantsPart t_pending_size t_pending_items t_code_size t_code_items) pl 46 [some (.ref A_t), some (.int l1), none] [] := by
  replace hw : wp_X0_add 1000 t_pending_size t_pending_items l1 (fun r51 t_pending_size_51 t_pending_items_51 => post 0 1 t_pending_size_51 t_pending_items_51 t_code_size t_code_items) := hw
  refine a_aload_n (pc := 46) (i := 0) C dX2_takeLink_46 rfl rfl ?_
  refine a_get (pc := 47) C fl_X2_20 dX2_takeLink_47 0 rfl rfl ?_
  refine a_iload_n (pc := 50) (i := 1) C dX2_takeLink_50 rfl rfl ?_
  refine a_callVi (pc := 51) (As := [.int l1]) (st := []) (ws' := (fun u => (w_X2_takeLink (cxG X) A_t A_t_pending A_t_pending_items A_t_code A_t_code_items U_t_values U_t_depth t_wantsPart u.1 u.2 t_code_size t_code_items))) C (c_X0_add A_t_pending A_t_pending_items 1000 hw) dX2_takeLink_51 mth_X0_add tml_X2_52 (fun _ _ h => trivial) Fz0_ok (rml (by decide) (by decide)) (Nat.le_of_ble_eq_true rfl) rfl rfl [1, 2] [0, 3, 4] [0, 3, 4, 1, 2] rfl rfl rfl rfl rfl rfl (ci := 0) rfl ⟨0, _, rfl⟩ (fun _ => rfl) rfl (fun _ => rfl) (fun r51 u hw => ?_)
  obtain ⟨z_51, hw⟩ := hw
  obtain ⟨t_pending_size_51, t_pending_items_51⟩ := u
  dsimp only at hw
  show AW X 3 0 0 (w_X2_takeLink (cxG X) A_t A_t_pending A_t_pending_items A_t_code A_t_code_items U_t_values U_t_depth t_wantsPart t_pending_size_51 t_pending_items_51 t_code_size t_code_items) pl 54 [some (.ref A_t), some (.int l1), none] [.int r51]
  refine a_pop (pc := 54) C dX2_takeLink_54 rfl ?_
  refine a_aload_n (pc := 55) (i := 0) C dX2_takeLink_55 rfl rfl ?_
  refine a_iconst (pc := 56) C dX2_takeLink_56 kc_1 ?_
  refine a_putW (pc := 57) (ws' := (w_X2_takeLink (cxG X) A_t A_t_pending A_t_pending_items A_t_code A_t_code_items U_t_values U_t_depth 1 t_pending_size_51 t_pending_items_51 t_code_size t_code_items)) C fl_X2_34 pu_2_4 dX2_takeLink_57 0 rfl rfl rfl (Nat.le_of_ble_eq_true rfl) rfl ?_
  refine a_iconst (pc := 60) C dX2_takeLink_60 kc_0 ?_
  exact hret _ _ _ _ _ _ _ _ hw dX2_takeLink_61
set_option maxRecDepth 20000 in
theorem m_X2_takeLink_b22 {X : Ctx} (C : Cok X cX2_takeLink 3 RX2 (rmL 2) Fz0) {pl : Pool} {A_t A_t_pending A_t_pending_items A_t_code A_t_code_items : Nat} {U_t_values U_t_depth : Value} {post : Int32 → Int32 → Int32 → (Nat → Int32) → Int32 → (Nat → Int32) → Prop} (hret : ∀ (r : Int32) (w0 : Int32) (w1 : Int32) (w2 : Nat → Int32) (w3 : Int32) (w4 : Nat → Int32) (pc : Nat) (lo : List (Option Value)), post r w0 w1 w2 w3 w4 → decode cX2_takeLink pc = .ok (.ireturn, 1) → AW X 3 0 0 (w_X2_takeLink (cxG X) A_t A_t_pending A_t_pending_items A_t_code A_t_code_items U_t_values U_t_depth w0 w1 w2 w3 w4) pl pc lo [.int r]) {t_wantsPart : Int32} {t_pending_size : Int32} {t_pending_items : Nat → Int32} {t_code_size : Int32} {t_code_items : Nat → Int32} {l1 : Int32} {l2 : Int32} {s0 : Int32} (hw : wp_X2_takeLink_b22  post t_wantsPart t_pending_size t_pending_items t_code_size t_code_items l1 l2 s0) : AW X 3 0 0 (w_X2_takeLink (cxG X) A_t A_t_pending A_t_pending_items A_t_code A_t_code_items U_t_values U_t_depth t_wantsPart t_pending_size t_pending_items t_code_size t_code_items) pl 22 [some (.ref A_t), some (.int l1), some (.int l2)] [.int s0, .ref A_t] := by
  replace hw : wp_X2_settle t_pending_items t_pending_size t_code_size t_code_items s0 (fun t_pending_size_22 t_code_size_22 t_code_items_22 => (¬ l2 = 2 → (wp_X2_takeLink_b46 post t_wantsPart t_pending_size_22 t_pending_items t_code_size_22 t_code_items_22 l1)) ∧ (l2 = 2 → (wp_X0_last 1000 t_pending_size_22 t_pending_items (fun r34 => wp_X2_rank r34 (fun r37 => (¬ r37 = 2 → (wp_X2_takeLink_b46 post t_wantsPart t_pending_size_22 t_pending_items t_code_size_22 t_code_items_22 l1)) ∧ (r37 = 2 → (post 1 t_wantsPart t_pending_size_22 t_pending_items t_code_size_22 t_code_items_22))))))) := hw
  refine a_callVv (pc := 22) (As := [.int s0]) (st := []) (ws' := (fun u => (w_X2_takeLink (cxG X) A_t A_t_pending A_t_pending_items A_t_code A_t_code_items U_t_values U_t_depth t_wantsPart u.1 t_pending_items u.2.1 u.2.2))) C (c_X2_settle A_t A_t_pending A_t_pending_items A_t_code A_t_code_items U_t_values U_t_depth (.int t_wantsPart) hw) dX2_takeLink_22 mth_X2_settle tml_X2_62 (fun _ _ h => trivial) Fz0_ok (rml (by decide) (by decide)) (Nat.le_of_ble_eq_true rfl) rfl rfl [0, 1, 2, 3, 4] [] [0, 1, 2, 3, 4] rfl rfl rfl rfl rfl rfl (ci := 2) rfl ⟨0, _, rfl⟩ (fun _ => rfl) rfl (fun _ => rfl) (fun u hw => ?_)
  obtain ⟨t_pending_size_22, t_code_size_22, t_code_items_22⟩ := u
  dsimp only at hw
  show AW X 3 0 0 (w_X2_takeLink (cxG X) A_t A_t_pending A_t_pending_items A_t_code A_t_code_items U_t_values U_t_depth t_wantsPart t_pending_size_22 t_pending_items t_code_size_22 t_code_items_22) pl 25 [some (.ref A_t), some (.int l1), some (.int l2)] []
  refine a_iload_n (pc := 25) (i := 2) C dX2_takeLink_25 rfl rfl ?_
  refine a_iconst (pc := 26) C dX2_takeLink_26 kc_2 ?_
  refine a_icmp_ne (pc := 27) (tgt := 46) C dX2_takeLink_27 (by decide) (fun c_27 => ?_) (fun c_27 => ?_)
  · replace hw := hw.1 c_27
    refine a_msk [true, true, false] rfl ?_
    exact m_X2_takeLink_b46 C hret hw
  · replace hw := hw.2 c_27
    refine a_aload_n (pc := 30) (i := 0) C dX2_takeLink_30 rfl rfl ?_
    refine a_get (pc := 31) C fl_X2_20 dX2_takeLink_31 0 rfl rfl ?_
    refine a_callVi (pc := 34) (As := []) (st := []) (ws' := (fun _ => (w_X2_takeLink (cxG X) A_t A_t_pending A_t_pending_items A_t_code A_t_code_items U_t_values U_t_depth t_wantsPart t_pending_size_22 t_pending_items t_code_size_22 t_code_items_22))) C (c_X0_last A_t_pending A_t_pending_items 1000 hw) dX2_takeLink_34 mth_X0_last tml_X2_65 (fun _ _ h => trivial) Fz0_ok (rml (by decide) (by decide)) (Nat.le_of_ble_eq_true rfl) rfl rfl [1, 2] [0, 3, 4] [0, 3, 4, 1, 2] rfl rfl rfl rfl rfl rfl (ci := 0) rfl ⟨0, _, rfl⟩ (fun _ => rfl) rfl (fun _ => rfl) (fun r34 u hw => ?_)
    show AW X 3 0 0 (w_X2_takeLink (cxG X) A_t A_t_pending A_t_pending_items A_t_code A_t_code_items U_t_values U_t_depth t_wantsPart t_pending_size_22 t_pending_items t_code_size_22 t_code_items_22) pl 37 [some (.ref A_t), some (.int l1), some (.int l2)] [.int r34]
    refine a_callSi (pc := 37) (As := [.int r34]) (st := []) (ws' := (fun _ => (w_X2_takeLink (cxG X) A_t A_t_pending A_t_pending_items A_t_code A_t_code_items U_t_values U_t_depth t_wantsPart t_pending_size_22 t_pending_items t_code_size_22 t_code_items_22))) C (c_X2_rank hw) dX2_takeLink_37 mth_X2_rank tml_X2_59 (fun _ _ h => trivial) Fz0_ok (rml (by decide) (by decide)) (Nat.le_of_ble_eq_true rfl) rfl rfl [] [0, 1, 2, 3, 4] [0, 1, 2, 3, 4] rfl rfl rfl rfl rfl rfl (fun _ => rfl) rfl (fun _ => rfl) (fun r37 u hw => ?_)
    show AW X 3 0 0 (w_X2_takeLink (cxG X) A_t A_t_pending A_t_pending_items A_t_code A_t_code_items U_t_values U_t_depth t_wantsPart t_pending_size_22 t_pending_items t_code_size_22 t_code_items_22) pl 40 [some (.ref A_t), some (.int l1), some (.int l2)] [.int r37]
    refine a_iconst (pc := 40) C dX2_takeLink_40 kc_2 ?_
    refine a_icmp_ne (pc := 41) (tgt := 46) C dX2_takeLink_41 (by decide) (fun c_41 => ?_) (fun c_41 => ?_)
    · replace hw := hw.1 c_41
      refine a_msk [true, true, false] rfl ?_
      exact m_X2_takeLink_b46 C hret hw
    · replace hw := hw.2 c_41
      refine a_iconst (pc := 44) C dX2_takeLink_44 kc_1 ?_
      exact hret _ _ _ _ _ _ _ _ hw dX2_takeLink_45
set_option maxRecDepth 20000 in
theorem m_X2_takeLink {X : Ctx} (C : Cok X cX2_takeLink 3 RX2 (rmL 2) Fz0) {pl : Pool} {A_t A_t_pending A_t_pending_items A_t_code A_t_code_items : Nat} {U_t_values U_t_depth : Value} {t_wantsPart : Int32} {t_pending_size : Int32} {t_pending_items : Nat → Int32} {t_code_size : Int32} {t_code_items : Nat → Int32} {p1 : Int32} {post : Int32 → Int32 → Int32 → (Nat → Int32) → Int32 → (Nat → Int32) → Prop} (hret : ∀ (r : Int32) (w0 : Int32) (w1 : Int32) (w2 : Nat → Int32) (w3 : Int32) (w4 : Nat → Int32) (pc : Nat) (lo : List (Option Value)), post r w0 w1 w2 w3 w4 → decode cX2_takeLink pc = .ok (.ireturn, 1) → AW X 3 0 0 (w_X2_takeLink (cxG X) A_t A_t_pending A_t_pending_items A_t_code A_t_code_items U_t_values U_t_depth w0 w1 w2 w3 w4) pl pc lo [.int r]) (hw : wp_X2_takeLink t_wantsPart t_pending_size t_pending_items t_code_size t_code_items p1 post) : AW X 3 0 0 (w_X2_takeLink (cxG X) A_t A_t_pending A_t_pending_items A_t_code A_t_code_items U_t_values U_t_depth t_wantsPart t_pending_size t_pending_items t_code_size t_code_items) pl 0 [some (.ref A_t), some (.int p1), none] [] := by
  replace hw : wp_X2_rank p1 (fun r1 => (¬ r1 = 0 → ((¬ r1 = 2 → (wp_X2_takeLink_b22 post t_wantsPart t_pending_size t_pending_items t_code_size t_code_items p1 r1 r1)) ∧ (r1 = 2 → (wp_X2_takeLink_b22 post t_wantsPart t_pending_size t_pending_items t_code_size t_code_items p1 r1 3)))) ∧ (r1 = 0 → (post 1 t_wantsPart t_pending_size t_pending_items t_code_size t_code_items))) := hw
  refine a_iload_n (pc := 0) (i := 1) C dX2_takeLink_0 rfl rfl ?_
  refine a_callSi (pc := 1) (As := [.int p1]) (st := []) (ws' := (fun _ => (w_X2_takeLink (cxG X) A_t A_t_pending A_t_pending_items A_t_code A_t_code_items U_t_values U_t_depth t_wantsPart t_pending_size t_pending_items t_code_size t_code_items))) C (c_X2_rank hw) dX2_takeLink_1 mth_X2_rank tml_X2_59 (fun _ _ h => trivial) Fz0_ok (rml (by decide) (by decide)) (Nat.le_of_ble_eq_true rfl) rfl rfl [] [0, 1, 2, 3, 4] [0, 1, 2, 3, 4] rfl rfl rfl rfl rfl rfl (fun _ => rfl) rfl (fun _ => rfl) (fun r1 u hw => ?_)
  show AW X 3 0 0 (w_X2_takeLink (cxG X) A_t A_t_pending A_t_pending_items A_t_code A_t_code_items U_t_values U_t_depth t_wantsPart t_pending_size t_pending_items t_code_size t_code_items) pl 4 [some (.ref A_t), some (.int p1), none] [.int r1]
  refine s_istore_n (pc := 4) (i := 2) (lo' := [some (.ref A_t), some (.int p1), some (.int r1)]) C dX2_takeLink_4 rfl (by decide) rfl rfl ?_
  refine a_iload_n (pc := 5) (i := 2) C dX2_takeLink_5 rfl rfl ?_
  refine a_if_ne (pc := 6) (tgt := 11) C dX2_takeLink_6 (by decide) (fun c_6 => ?_) (fun c_6 => ?_)
  · replace hw := hw.1 c_6
    refine a_aload_n (pc := 11) (i := 0) C dX2_takeLink_11 rfl rfl ?_
    refine a_iload_n (pc := 12) (i := 2) C dX2_takeLink_12 rfl rfl ?_
    refine a_iconst (pc := 13) C dX2_takeLink_13 kc_2 ?_
    refine a_icmp_ne (pc := 14) (tgt := 21) C dX2_takeLink_14 (by decide) (fun c_14 => ?_) (fun c_14 => ?_)
    · replace hw := hw.1 c_14
      refine a_iload_n (pc := 21) (i := 2) C dX2_takeLink_21 rfl rfl ?_
      exact m_X2_takeLink_b22 C hret hw
    · replace hw := hw.2 c_14
      refine a_iconst (pc := 17) C dX2_takeLink_17 kc_3 ?_
      refine a_goto (pc := 18) (tgt := 22) C dX2_takeLink_18 (by decide) ?_
      exact m_X2_takeLink_b22 C hret hw
  · replace hw := hw.2 c_6
    refine a_iconst (pc := 9) C dX2_takeLink_9 kc_1 ?_
    exact hret _ _ _ _ _ _ _ _ hw dX2_takeLink_10
theorem c_X2_takeLink {l : Launch} {g : GG} {pl : Pool} (A_t A_t_pending A_t_pending_items A_t_code A_t_code_items : Nat) (U_t_values U_t_depth : Value) {t_wantsPart : Int32} {t_pending_size : Int32} {t_pending_items : Nat → Int32} {t_code_size : Int32} {t_code_items : Nat → Int32} {p1 : Int32} {post : Int32 → Int32 → Int32 → (Nat → Int32) → Int32 → (Nat → Int32) → Prop} (hw : wp_X2_takeLink t_wantsPart t_pending_size t_pending_items t_code_size t_code_items p1 post) : MI l yX2_takeLink cX2_takeLink 3 (some .int) (rmL 2) g Fz0 [.ref A_t, .int p1] (w_X2_takeLink g A_t A_t_pending A_t_pending_items A_t_code A_t_code_items U_t_values U_t_depth t_wantsPart t_pending_size t_pending_items t_code_size t_code_items) pl (fun r (u : Int32 × Int32 × (Nat → Int32) × Int32 × (Nat → Int32)) => post r u.1 u.2.1 u.2.2.1 u.2.2.2.1 u.2.2.2.2) (fun u => (w_X2_takeLink g A_t A_t_pending A_t_pending_items A_t_code A_t_code_items U_t_values U_t_depth u.1 u.2.1 u.2.2.1 u.2.2.2.1 u.2.2.2.2)) (fun _ => pl) 0 0 := by
  refine met_i (own := RX2) rfl rfl (Nat.le_of_ble_eq_true rfl) (fun X hg hl C hini hret => ?_)
  subst hg
  subst hl
  exact m_X2_takeLink C (fun r w0 w1 w2 w3 w4 pc lo hp hd => hret r (w0, w1, w2, w3, w4) pc lo hp hd) hw
abbrev w_X2_takePart (g : GG) (A_t A_t_code A_t_code_items A_t_pending A_t_pending_items : Nat) (U_t_values : Value) (t_depth : Int32) (t_wantsPart : Int32) (t_code_size : Int32) (t_code_items : Nat → Int32) (t_pending_size : Int32) (t_pending_items : Nat → Int32) : va_W := [(A_t, ob 2 [.ref A_t_code, .ref A_t_pending, U_t_values, .int t_depth, .int t_wantsPart]), (A_t_code, ob 0 [.ref A_t_code_items, .int t_code_size]), (A_t_code_items, aI g 1000 t_code_items), (A_t_pending, ob 0 [.ref A_t_pending_items, .int t_pending_size]), (A_t_pending_items, aI g 1000 t_pending_items)]
set_option maxRecDepth 20000 in
theorem m_X2_takePart_b107 {X : Ctx} (C : Cok X cX2_takePart 5 RX2 (rmL 2) Fz0) {pl : Pool} {A_t A_t_code A_t_code_items A_t_pending A_t_pending_items : Nat} {U_t_values : Value} {post : Int32 → Int32 → Int32 → Int32 → (Nat → Int32) → Int32 → (Nat → Int32) → Prop} (hret : ∀ (r : Int32) (w0 : Int32) (w1 : Int32) (w2 : Int32) (w3 : Nat → Int32) (w4 : Int32) (w5 : Nat → Int32) (pc : Nat) (lo : List (Option Value)), post r w0 w1 w2 w3 w4 w5 → decode cX2_takePart pc = .ok (.ireturn, 1) → AW X 5 0 0 (w_X2_takePart (cxG X) A_t A_t_code A_t_code_items A_t_pending A_t_pending_items U_t_values w0 w1 w2 w3 w4 w5) pl pc lo [.int r]) {t_depth : Int32} {t_wantsPart : Int32} {t_code_size : Int32} {t_code_items : Nat → Int32} {t_pending_size : Int32} {t_pending_items : Nat → Int32} {s0 : Int32} (hw : wp_X2_takePart_b107  post t_depth t_wantsPart t_code_size t_code_items t_pending_size t_pending_items s0) : AW X 5 0 0 (w_X2_takePart (cxG X) A_t A_t_code A_t_code_items A_t_pending A_t_pending_items U_t_values t_depth t_wantsPart t_code_size t_code_items t_pending_size t_pending_items) pl 107 [some (.ref A_t), none, none, none, none] [.int s0, .ref A_t_code] := by
  replace hw : wp_X0_add 1000 t_code_size t_code_items s0 (fun r107 t_code_size_107 t_code_items_107 => wp_X2_endPart t_pending_items t_depth t_wantsPart t_pending_size t_code_size_107 t_code_items_107 (fun t_depth_112 t_wantsPart_112 t_pending_size_112 t_code_size_112 t_code_items_112 => post 0 t_depth_112 t_wantsPart_112 t_code_size_112 t_code_items_112 t_pending_size_112 t_pending_items)) := hw
  refine a_callVi (pc := 107) (As := [.int s0]) (st := []) (ws' := (fun u => (w_X2_takePart (cxG X) A_t A_t_code A_t_code_items A_t_pending A_t_pending_items U_t_values t_depth t_wantsPart u.1 u.2 t_pending_size t_pending_items))) C (c_X0_add A_t_code A_t_code_items 1000 hw) dX2_takePart_107 mth_X0_add tml_X2_52 (fun _ _ h => trivial) Fz0_ok (rml (by decide) (by decide)) (Nat.le_of_ble_eq_true rfl) rfl rfl [1, 2] [0, 3, 4] [0, 3, 4, 1, 2] rfl rfl rfl rfl rfl rfl (ci := 0) rfl ⟨0, _, rfl⟩ (fun _ => rfl) rfl (fun _ => rfl) (fun r107 u hw => ?_)
  obtain ⟨z_107, hw⟩ := hw
  obtain ⟨t_code_size_107, t_code_items_107⟩ := u
  dsimp only at hw
  show AW X 5 0 0 (w_X2_takePart (cxG X) A_t A_t_code A_t_code_items A_t_pending A_t_pending_items U_t_values t_depth t_wantsPart t_code_size_107 t_code_items_107 t_pending_size t_pending_items) pl 110 [some (.ref A_t), none, none, none, none] [.int r107]
  refine a_pop (pc := 110) C dX2_takePart_110 rfl ?_
  refine a_aload_n (pc := 111) (i := 0) C dX2_takePart_111 rfl rfl ?_
  refine a_callVv (pc := 112) (As := []) (st := []) (ws' := (fun u => (w_X2_takePart (cxG X) A_t A_t_code A_t_code_items A_t_pending A_t_pending_items U_t_values u.1 u.2.1 u.2.2.2.1 u.2.2.2.2 u.2.2.1 t_pending_items))) C (c_X2_endPart A_t A_t_pending A_t_pending_items A_t_code A_t_code_items U_t_values hw) dX2_takePart_112 mth_X2_endPart tml_X2_56 (fun _ _ h => trivial) Fz0_ok (rml (by decide) (by decide)) (Nat.le_of_ble_eq_true rfl) rfl rfl [0, 3, 4, 1, 2] [] [0, 3, 4, 1, 2] rfl rfl rfl rfl rfl rfl (ci := 2) rfl ⟨0, _, rfl⟩ (fun _ => rfl) rfl (fun _ => rfl) (fun u hw => ?_)
  obtain ⟨t_depth_112, t_wantsPart_112, t_pending_size_112, t_code_size_112, t_code_items_112⟩ := u
  dsimp only at hw
  show AW X 5 0 0 (w_X2_takePart (cxG X) A_t A_t_code A_t_code_items A_t_pending A_t_pending_items U_t_values t_depth_112 t_wantsPart_112 t_code_size_112 t_code_items_112 t_pending_size_112 t_pending_items) pl 115 [some (.ref A_t), none, none, none, none] []
  refine a_iconst (pc := 115) C dX2_takePart_115 kc_0 ?_
  exact hret _ _ _ _ _ _ _ _ _ hw dX2_takePart_116
set_option maxRecDepth 20000 in
theorem m_X2_takePart_b54 {X : Ctx} (C : Cok X cX2_takePart 5 RX2 (rmL 2) Fz0) {pl : Pool} {A_t A_t_code A_t_code_items A_t_pending A_t_pending_items : Nat} {U_t_values : Value} {post : Int32 → Int32 → Int32 → Int32 → (Nat → Int32) → Int32 → (Nat → Int32) → Prop} (hret : ∀ (r : Int32) (w0 : Int32) (w1 : Int32) (w2 : Int32) (w3 : Nat → Int32) (w4 : Int32) (w5 : Nat → Int32) (pc : Nat) (lo : List (Option Value)), post r w0 w1 w2 w3 w4 w5 → decode cX2_takePart pc = .ok (.ireturn, 1) → AW X 5 0 0 (w_X2_takePart (cxG X) A_t A_t_code A_t_code_items A_t_pending A_t_pending_items U_t_values w0 w1 w2 w3 w4 w5) pl pc lo [.int r]) {t_depth : Int32} {t_wantsPart : Int32} {t_code_size : Int32} {t_code_items : Nat → Int32} {t_pending_size : Int32} {t_pending_items : Nat → Int32} {l1 : Int32} {l2 : Int32} {l3 : Int32} (hw : wp_X2_takePart_b54  post t_depth t_wantsPart t_code_size t_code_items t_pending_size t_pending_items l1 l2 l3) : AW X 5 0 0 (w_X2_takePart (cxG X) A_t A_t_code A_t_code_items A_t_pending A_t_pending_items U_t_values t_depth t_wantsPart t_code_size t_code_items t_pending_size t_pending_items) pl 54 [some (.ref A_t), some (.int l1), some (.int l2), some (.int l3), none] [] := by
  refine a_aload_n (pc := 54) (i := 0) C dX2_takePart_54 rfl rfl ?_
  refine a_get (pc := 55) C fl_X2_30 dX2_takePart_55 0 rfl rfl ?_
  refine a_iconst (pc := 58) C dX2_takePart_58 kc_5 ?_
  refine a_icmp_lt (pc := 59) (tgt := 64) C dX2_takePart_59 (by decide) (fun c_59 => ?_) (fun c_59 => ?_)
  · replace hw := hw.1 c_59
    refine a_iload_n (pc := 64) (i := 3) C dX2_takePart_64 rfl rfl ?_
    refine a_if_eq (pc := 65) (tgt := 90) C dX2_takePart_65 (by decide) (fun c_65 => ?_) (fun c_65 => ?_)
    · replace hw := hw.1 c_65
      refine a_aload_n (pc := 90) (i := 0) C dX2_takePart_90 rfl rfl ?_
      refine a_get (pc := 91) C fl_X2_14 dX2_takePart_91 0 rfl rfl ?_
      refine a_iload_n (pc := 94) (i := 1) C dX2_takePart_94 rfl rfl ?_
      refine a_bipush (pc := 95) C dX2_takePart_95 kb_50 ?_
      refine a_icmp_ne (pc := 97) (tgt := 104) C dX2_takePart_97 (by decide) (fun c_97 => ?_) (fun c_97 => ?_)
      · replace hw := hw.1 c_97
        refine a_iconst (pc := 104) C dX2_takePart_104 kc_m1 ?_
        refine a_iload_n (pc := 105) (i := 1) C dX2_takePart_105 rfl rfl ?_
        refine a_isub (pc := 106) C dX2_takePart_106 ?_
        refine a_msk [true, false, false, false, true] rfl ?_
        exact m_X2_takePart_b107 C hret hw
      · replace hw := hw.2 c_97
        refine a_iload_n (pc := 100) (i := 2) C dX2_takePart_100 rfl rfl ?_
        refine a_goto (pc := 101) (tgt := 107) C dX2_takePart_101 (by decide) ?_
        refine a_msk [true, false, false, false, true] rfl ?_
        exact m_X2_takePart_b107 C hret hw
    · replace hw := hw.2 c_65
      refine a_aload_n (pc := 68) (i := 0) C dX2_takePart_68 rfl rfl ?_
      refine a_get (pc := 69) C fl_X2_20 dX2_takePart_69 0 rfl rfl ?_
      refine a_iload_n (pc := 72) (i := 1) C dX2_takePart_72 rfl rfl ?_
      refine a_callVi (pc := 73) (As := [.int l1]) (st := []) (ws' := (fun u => (w_X2_takePart (cxG X) A_t A_t_code A_t_code_items A_t_pending A_t_pending_items U_t_values t_depth t_wantsPart t_code_size t_code_items u.1 u.2))) C (c_X0_add A_t_pending A_t_pending_items 1000 hw) dX2_takePart_73 mth_X0_add tml_X2_52 (fun _ _ h => trivial) Fz0_ok (rml (by decide) (by decide)) (Nat.le_of_ble_eq_true rfl) rfl rfl [3, 4] [0, 1, 2] [0, 1, 2, 3, 4] rfl rfl rfl rfl rfl rfl (ci := 0) rfl ⟨0, _, rfl⟩ (fun _ => rfl) rfl (fun _ => rfl) (fun r73 u hw => ?_)
      obtain ⟨z_73, hw⟩ := hw
      obtain ⟨t_pending_size_73, t_pending_items_73⟩ := u
      dsimp only at hw
      show AW X 5 0 0 (w_X2_takePart (cxG X) A_t A_t_code A_t_code_items A_t_pending A_t_pending_items U_t_values t_depth t_wantsPart t_code_size t_code_items t_pending_size_73 t_pending_items_73) pl 76 [some (.ref A_t), some (.int l1), some (.int l2), some (.int l3), none] [.int r73]
      refine a_pop (pc := 76) C dX2_takePart_76 rfl ?_
      refine a_aload_n (pc := 77) (i := 0) C dX2_takePart_77 rfl rfl ?_
      refine a_dup (pc := 78) C dX2_takePart_78 rfl ?_
      refine a_get (pc := 79) C fl_X2_30 dX2_takePart_79 0 rfl rfl ?_
      refine a_iconst (pc := 82) C dX2_takePart_82 kc_1 ?_
      refine a_iadd (pc := 83) C dX2_takePart_83 ?_
      refine a_topi (fun x84 e_x84 => ?_)
      replace hw := hw x84 e_x84
      refine a_putW (pc := 84) (ws' := (w_X2_takePart (cxG X) A_t A_t_code A_t_code_items A_t_pending A_t_pending_items U_t_values x84 t_wantsPart t_code_size t_code_items t_pending_size_73 t_pending_items_73)) C fl_X2_30 pu_2_3 dX2_takePart_84 0 rfl rfl rfl (Nat.le_of_ble_eq_true rfl) rfl ?_
      refine a_goto (pc := 87) (tgt := 115) C dX2_takePart_87 (by decide) ?_
      refine a_iconst (pc := 115) C dX2_takePart_115 kc_0 ?_
      exact hret _ _ _ _ _ _ _ _ _ hw dX2_takePart_116
  · replace hw := hw.2 c_59
    refine a_iconst (pc := 62) C dX2_takePart_62 kc_5 ?_
    exact hret _ _ _ _ _ _ _ _ _ hw dX2_takePart_63
set_option maxRecDepth 20000 in
theorem m_X2_takePart_b41 {X : Ctx} (C : Cok X cX2_takePart 5 RX2 (rmL 2) Fz0) {pl : Pool} {A_t A_t_code A_t_code_items A_t_pending A_t_pending_items : Nat} {U_t_values : Value} {post : Int32 → Int32 → Int32 → Int32 → (Nat → Int32) → Int32 → (Nat → Int32) → Prop} (hret : ∀ (r : Int32) (w0 : Int32) (w1 : Int32) (w2 : Int32) (w3 : Nat → Int32) (w4 : Int32) (w5 : Nat → Int32) (pc : Nat) (lo : List (Option Value)), post r w0 w1 w2 w3 w4 w5 → decode cX2_takePart pc = .ok (.ireturn, 1) → AW X 5 0 0 (w_X2_takePart (cxG X) A_t A_t_code A_t_code_items A_t_pending A_t_pending_items U_t_values w0 w1 w2 w3 w4 w5) pl pc lo [.int r]) {t_depth : Int32} {t_wantsPart : Int32} {t_code_size : Int32} {t_code_items : Nat → Int32} {t_pending_size : Int32} {t_pending_items : Nat → Int32} {l1 : Int32} {l2 : Int32} {l3 : Int32} {s0 : Int32} (hw : wp_X2_takePart_b41  post t_depth t_wantsPart t_code_size t_code_items t_pending_size t_pending_items l1 l2 l3 s0) : AW X 5 0 0 (w_X2_takePart (cxG X) A_t A_t_code A_t_code_items A_t_pending A_t_pending_items U_t_values t_depth t_wantsPart t_code_size t_code_items t_pending_size t_pending_items) pl 41 [some (.ref A_t), some (.int l1), some (.int l2), some (.int l3), none] [.int s0] := by
  refine s_istore (pc := 41) (i := 4) (lo' := [some (.ref A_t), some (.int l1), some (.int l2), some (.int l3), some (.int s0)]) C dX2_takePart_41 (by decide) rfl rfl ?_
  refine a_iload_n (pc := 43) (i := 3) C dX2_takePart_43 rfl rfl ?_
  refine a_if_ne (pc := 44) (tgt := 54) C dX2_takePart_44 (by decide) (fun c_44 => ?_) (fun c_44 => ?_)
  · replace hw := hw.1 c_44
    refine a_msk [true, true, true, true, false] rfl ?_
    exact m_X2_takePart_b54 C hret hw
  · replace hw := hw.2 c_44
    refine a_iload (pc := 47) (i := 4) C dX2_takePart_47 rfl ?_
    refine a_if_ne (pc := 49) (tgt := 54) C dX2_takePart_49 (by decide) (fun c_49 => ?_) (fun c_49 => ?_)
    · replace hw := hw.1 c_49
      refine a_msk [true, true, true, true, false] rfl ?_
      exact m_X2_takePart_b54 C hret hw
    · replace hw := hw.2 c_49
      refine a_iconst (pc := 52) C dX2_takePart_52 kc_1 ?_
      exact hret _ _ _ _ _ _ _ _ _ hw dX2_takePart_53
set_option maxRecDepth 20000 in
theorem m_X2_takePart_b36 {X : Ctx} (C : Cok X cX2_takePart 5 RX2 (rmL 2) Fz0) {pl : Pool} {A_t A_t_code A_t_code_items A_t_pending A_t_pending_items : Nat} {U_t_values : Value} {post : Int32 → Int32 → Int32 → Int32 → (Nat → Int32) → Int32 → (Nat → Int32) → Prop} (hret : ∀ (r : Int32) (w0 : Int32) (w1 : Int32) (w2 : Int32) (w3 : Nat → Int32) (w4 : Int32) (w5 : Nat → Int32) (pc : Nat) (lo : List (Option Value)), post r w0 w1 w2 w3 w4 w5 → decode cX2_takePart pc = .ok (.ireturn, 1) → AW X 5 0 0 (w_X2_takePart (cxG X) A_t A_t_code A_t_code_items A_t_pending A_t_pending_items U_t_values w0 w1 w2 w3 w4 w5) pl pc lo [.int r]) {t_depth : Int32} {t_wantsPart : Int32} {t_code_size : Int32} {t_code_items : Nat → Int32} {t_pending_size : Int32} {t_pending_items : Nat → Int32} {l1 : Int32} {l2 : Int32} {l3 : Int32} (hw : wp_X2_takePart_b36  post t_depth t_wantsPart t_code_size t_code_items t_pending_size t_pending_items l1 l2 l3) : AW X 5 0 0 (w_X2_takePart (cxG X) A_t A_t_code A_t_code_items A_t_pending A_t_pending_items U_t_values t_depth t_wantsPart t_code_size t_code_items t_pending_size t_pending_items) pl 36 [some (.ref A_t), some (.int l1), some (.int l2), some (.int l3), none] [] := by
  replace hw : wp_X2_takePart_b41 post t_depth t_wantsPart t_code_size t_code_items t_pending_size t_pending_items l1 l2 l3 1 := hw
  refine a_iconst (pc := 36) C dX2_takePart_36 kc_1 ?_
  refine a_goto (pc := 37) (tgt := 41) C dX2_takePart_37 (by decide) ?_
  exact m_X2_takePart_b41 C hret hw
set_option maxRecDepth 20000 in
theorem m_X2_takePart_b17 {X : Ctx} (C : Cok X cX2_takePart 5 RX2 (rmL 2) Fz0) {pl : Pool} {A_t A_t_code A_t_code_items A_t_pending A_t_pending_items : Nat} {U_t_values : Value} {post : Int32 → Int32 → Int32 → Int32 → (Nat → Int32) → Int32 → (Nat → Int32) → Prop} (hret : ∀ (r : Int32) (w0 : Int32) (w1 : Int32) (w2 : Int32) (w3 : Nat → Int32) (w4 : Int32) (w5 : Nat → Int32) (pc : Nat) (lo : List (Option Value)), post r w0 w1 w2 w3 w4 w5 → decode cX2_takePart pc = .ok (.ireturn, 1) → AW X 5 0 0 (w_X2_takePart (cxG X) A_t A_t_code A_t_code_items A_t_pending A_t_pending_items U_t_values w0 w1 w2 w3 w4 w5) pl pc lo [.int r]) {t_depth : Int32} {t_wantsPart : Int32} {t_code_size : Int32} {t_code_items : Nat → Int32} {t_pending_size : Int32} {t_pending_items : Nat → Int32} {l1 : Int32} {l2 : Int32} {s0 : Int32} (hw : wp_X2_takePart_b17  post t_depth t_wantsPart t_code_size t_code_items t_pending_size t_pending_items l1 l2 s0) : AW X 5 0 0 (w_X2_takePart (cxG X) A_t A_t_code A_t_code_items A_t_pending A_t_pending_items U_t_values t_depth t_wantsPart t_code_size t_code_items t_pending_size t_pending_items) pl 17 [some (.ref A_t), some (.int l1), some (.int l2), none, none] [.int s0] := by
  refine s_istore_n (pc := 17) (i := 3) (lo' := [some (.ref A_t), some (.int l1), some (.int l2), some (.int s0), none]) C dX2_takePart_17 rfl (by decide) rfl rfl ?_
  refine a_iload_n (pc := 18) (i := 1) C dX2_takePart_18 rfl rfl ?_
  refine a_bipush (pc := 19) C dX2_takePart_19 kb_50 ?_
  refine a_icmp_eq (pc := 21) (tgt := 36) C dX2_takePart_21 (by decide) (fun c_21 => ?_) (fun c_21 => ?_)
  · replace hw := hw.1 c_21
    exact m_X2_takePart_b36 C hret hw
  · replace hw := hw.2 c_21
    refine a_iload_n (pc := 24) (i := 1) C dX2_takePart_24 rfl rfl ?_
    refine a_bipush (pc := 25) C dX2_takePart_25 kb_20 ?_
    refine a_icmp_eq (pc := 27) (tgt := 36) C dX2_takePart_27 (by decide) (fun c_27 => ?_) (fun c_27 => ?_)
    · replace hw := hw.1 c_27
      exact m_X2_takePart_b36 C hret hw
    · replace hw := hw.2 c_27
      refine a_iload_n (pc := 30) (i := 1) C dX2_takePart_30 rfl rfl ?_
      refine a_bipush (pc := 31) C dX2_takePart_31 kb_21 ?_
      refine a_icmp_ne (pc := 33) (tgt := 40) C dX2_takePart_33 (by decide) (fun c_33 => ?_) (fun c_33 => ?_)
      · replace hw := hw.1 c_33
        refine a_iconst (pc := 40) C dX2_takePart_40 kc_0 ?_
        exact m_X2_takePart_b41 C hret hw
      · replace hw := hw.2 c_33
        exact m_X2_takePart_b36 C hret hw
set_option maxRecDepth 20000 in
theorem m_X2_takePart_b12 {X : Ctx} (C : Cok X cX2_takePart 5 RX2 (rmL 2) Fz0) {pl : Pool} {A_t A_t_code A_t_code_items A_t_pending A_t_pending_items : Nat} {U_t_values : Value} {post : Int32 → Int32 → Int32 → Int32 → (Nat → Int32) → Int32 → (Nat → Int32) → Prop} (hret : ∀ (r : Int32) (w0 : Int32) (w1 : Int32) (w2 : Int32) (w3 : Nat → Int32) (w4 : Int32) (w5 : Nat → Int32) (pc : Nat) (lo : List (Option Value)), post r w0 w1 w2 w3 w4 w5 → decode cX2_takePart pc = .ok (.ireturn, 1) → AW X 5 0 0 (w_X2_takePart (cxG X) A_t A_t_code A_t_code_items A_t_pending A_t_pending_items U_t_values w0 w1 w2 w3 w4 w5) pl pc lo [.int r]) {t_depth : Int32} {t_wantsPart : Int32} {t_code_size : Int32} {t_code_items : Nat → Int32} {t_pending_size : Int32} {t_pending_items : Nat → Int32} {l1 : Int32} {l2 : Int32} (hw : wp_X2_takePart_b12  post t_depth t_wantsPart t_code_size t_code_items t_pending_size t_pending_items l1 l2) : AW X 5 0 0 (w_X2_takePart (cxG X) A_t A_t_code A_t_code_items A_t_pending A_t_pending_items U_t_values t_depth t_wantsPart t_code_size t_code_items t_pending_size t_pending_items) pl 12 [some (.ref A_t), some (.int l1), some (.int l2), none, none] [] := by
  replace hw : wp_X2_takePart_b17 post t_depth t_wantsPart t_code_size t_code_items t_pending_size t_pending_items l1 l2 1 := hw
  refine a_iconst (pc := 12) C dX2_takePart_12 kc_1 ?_
  refine a_goto (pc := 13) (tgt := 17) C dX2_takePart_13 (by decide) ?_
  exact m_X2_takePart_b17 C hret hw
set_option maxRecDepth 20000 in
theorem m_X2_takePart {X : Ctx} (C : Cok X cX2_takePart 5 RX2 (rmL 2) Fz0) {pl : Pool} {A_t A_t_code A_t_code_items A_t_pending A_t_pending_items : Nat} {U_t_values : Value} {t_depth : Int32} {t_wantsPart : Int32} {t_code_size : Int32} {t_code_items : Nat → Int32} {t_pending_size : Int32} {t_pending_items : Nat → Int32} {p1 : Int32} {p2 : Int32} {post : Int32 → Int32 → Int32 → Int32 → (Nat → Int32) → Int32 → (Nat → Int32) → Prop} (hret : ∀ (r : Int32) (w0 : Int32) (w1 : Int32) (w2 : Int32) (w3 : Nat → Int32) (w4 : Int32) (w5 : Nat → Int32) (pc : Nat) (lo : List (Option Value)), post r w0 w1 w2 w3 w4 w5 → decode cX2_takePart pc = .ok (.ireturn, 1) → AW X 5 0 0 (w_X2_takePart (cxG X) A_t A_t_code A_t_code_items A_t_pending A_t_pending_items U_t_values w0 w1 w2 w3 w4 w5) pl pc lo [.int r]) (hw : wp_X2_takePart t_depth t_wantsPart t_code_size t_code_items t_pending_size t_pending_items p1 p2 post) : AW X 5 0 0 (w_X2_takePart (cxG X) A_t A_t_code A_t_code_items A_t_pending A_t_pending_items U_t_values t_depth t_wantsPart t_code_size t_code_items t_pending_size t_pending_items) pl 0 [some (.ref A_t), some (.int p1), some (.int p2), none, none] [] := by
  refine a_iload_n (pc := 0) (i := 1) C dX2_takePart_0 rfl rfl ?_
  refine a_bipush (pc := 1) C dX2_takePart_1 kb_19 ?_
  refine a_icmp_eq (pc := 3) (tgt := 12) C dX2_takePart_3 (by decide) (fun c_3 => ?_) (fun c_3 => ?_)
  · replace hw := hw.1 c_3
    exact m_X2_takePart_b12 C hret hw
  · replace hw := hw.2 c_3
    refine a_iload_n (pc := 6) (i := 1) C dX2_takePart_6 rfl rfl ?_
    refine a_bipush (pc := 7) C dX2_takePart_7 kb_32 ?_
    refine a_icmp_ne (pc := 9) (tgt := 16) C dX2_takePart_9 (by decide) (fun c_9 => ?_) (fun c_9 => ?_)
    · replace hw := hw.1 c_9
      refine a_iconst (pc := 16) C dX2_takePart_16 kc_0 ?_
      exact m_X2_takePart_b17 C hret hw
    · replace hw := hw.2 c_9
      exact m_X2_takePart_b12 C hret hw
theorem c_X2_takePart {l : Launch} {g : GG} {pl : Pool} (A_t A_t_code A_t_code_items A_t_pending A_t_pending_items : Nat) (U_t_values : Value) {t_depth : Int32} {t_wantsPart : Int32} {t_code_size : Int32} {t_code_items : Nat → Int32} {t_pending_size : Int32} {t_pending_items : Nat → Int32} {p1 : Int32} {p2 : Int32} {post : Int32 → Int32 → Int32 → Int32 → (Nat → Int32) → Int32 → (Nat → Int32) → Prop} (hw : wp_X2_takePart t_depth t_wantsPart t_code_size t_code_items t_pending_size t_pending_items p1 p2 post) : MI l yX2_takePart cX2_takePart 5 (some .int) (rmL 2) g Fz0 [.ref A_t, .int p1, .int p2] (w_X2_takePart g A_t A_t_code A_t_code_items A_t_pending A_t_pending_items U_t_values t_depth t_wantsPart t_code_size t_code_items t_pending_size t_pending_items) pl (fun r (u : Int32 × Int32 × Int32 × (Nat → Int32) × Int32 × (Nat → Int32)) => post r u.1 u.2.1 u.2.2.1 u.2.2.2.1 u.2.2.2.2.1 u.2.2.2.2.2) (fun u => (w_X2_takePart g A_t A_t_code A_t_code_items A_t_pending A_t_pending_items U_t_values u.1 u.2.1 u.2.2.1 u.2.2.2.1 u.2.2.2.2.1 u.2.2.2.2.2)) (fun _ => pl) 0 0 := by
  refine met_i (own := RX2) rfl rfl (Nat.le_of_ble_eq_true rfl) (fun X hg hl C hini hret => ?_)
  subst hg
  subst hl
  exact m_X2_takePart C (fun r w0 w1 w2 w3 w4 w5 pc lo hp hd => hret r (w0, w1, w2, w3, w4, w5) pc lo hp hd) hw
abbrev w_X2_take (g : GG) (A_t A_t_pending A_t_pending_items A_t_code A_t_code_items : Nat) (U_t_values : Value) (t_depth : Int32) (t_wantsPart : Int32) (t_pending_size : Int32) (t_pending_items : Nat → Int32) (t_code_size : Int32) (t_code_items : Nat → Int32) : va_W := [(A_t, ob 2 [.ref A_t_code, .ref A_t_pending, U_t_values, .int t_depth, .int t_wantsPart]), (A_t_pending, ob 0 [.ref A_t_pending_items, .int t_pending_size]), (A_t_pending_items, aI g 1000 t_pending_items), (A_t_code, ob 0 [.ref A_t_code_items, .int t_code_size]), (A_t_code_items, aI g 1000 t_code_items)]
set_option maxRecDepth 20000 in
theorem m_X2_take {X : Ctx} (C : Cok X cX2_take 3 RX2 (rmL 3) Fz0) {pl : Pool} {A_t A_t_pending A_t_pending_items A_t_code A_t_code_items : Nat} {U_t_values : Value} {t_depth : Int32} {t_wantsPart : Int32} {t_pending_size : Int32} {t_pending_items : Nat → Int32} {t_code_size : Int32} {t_code_items : Nat → Int32} {p1 : Int32} {p2 : Int32} {post : Int32 → Int32 → Int32 → Int32 → (Nat → Int32) → Int32 → (Nat → Int32) → Prop} (hret : ∀ (r : Int32) (w0 : Int32) (w1 : Int32) (w2 : Int32) (w3 : Nat → Int32) (w4 : Int32) (w5 : Nat → Int32) (pc : Nat) (lo : List (Option Value)), post r w0 w1 w2 w3 w4 w5 → decode cX2_take pc = .ok (.ireturn, 1) → AW X 3 0 0 (w_X2_take (cxG X) A_t A_t_pending A_t_pending_items A_t_code A_t_code_items U_t_values w0 w1 w2 w3 w4 w5) pl pc lo [.int r]) (hw : wp_X2_take t_depth t_wantsPart t_pending_size t_pending_items t_code_size t_code_items p1 p2 post) : AW X 3 0 0 (w_X2_take (cxG X) A_t A_t_pending A_t_pending_items A_t_code A_t_code_items U_t_values t_depth t_wantsPart t_pending_size t_pending_items t_code_size t_code_items) pl 0 [some (.ref A_t), some (.int p1), some (.int p2)] [] := by
  refine a_aload_n (pc := 0) (i := 0) C dX2_take_0 rfl rfl ?_
  refine a_get (pc := 1) C fl_X2_34 dX2_take_1 0 rfl rfl ?_
  refine a_if_eq (pc := 4) (tgt := 14) C dX2_take_4 (by decide) (fun c_4 => ?_) (fun c_4 => ?_)
  · replace hw := hw.1 c_4
    refine a_iload_n (pc := 14) (i := 1) C dX2_take_14 rfl rfl ?_
    refine a_bipush (pc := 15) C dX2_take_15 kb_33 ?_
    refine a_icmp_ne (pc := 17) (tgt := 27) C dX2_take_17 (by decide) (fun c_17 => ?_) (fun c_17 => ?_)
    · replace hw := hw.1 c_17
      refine a_aload_n (pc := 27) (i := 0) C dX2_take_27 rfl rfl ?_
      refine a_iload_n (pc := 28) (i := 1) C dX2_take_28 rfl rfl ?_
      refine a_callVi (pc := 29) (As := [.int p1]) (st := []) (ws' := (fun u => (w_X2_take (cxG X) A_t A_t_pending A_t_pending_items A_t_code A_t_code_items U_t_values t_depth u.1 u.2.1 u.2.2.1 u.2.2.2.1 u.2.2.2.2))) C (c_X2_takeLink A_t A_t_pending A_t_pending_items A_t_code A_t_code_items U_t_values (.int t_depth) hw) dX2_take_29 mth_X2_takeLink tml_X2_48 (fun _ _ h => trivial) Fz0_ok (rml (by decide) (by decide)) (Nat.le_of_ble_eq_true rfl) rfl rfl [0, 1, 2, 3, 4] [] [0, 1, 2, 3, 4] rfl rfl rfl rfl rfl rfl (ci := 2) rfl ⟨0, _, rfl⟩ (fun _ => rfl) rfl (fun _ => rfl) (fun r29 u hw => ?_)
      obtain ⟨t_wantsPart_29, t_pending_size_29, t_pending_items_29, t_code_size_29, t_code_items_29⟩ := u
      dsimp only at hw
      show AW X 3 0 0 (w_X2_take (cxG X) A_t A_t_pending A_t_pending_items A_t_code A_t_code_items U_t_values t_depth t_wantsPart_29 t_pending_size_29 t_pending_items_29 t_code_size_29 t_code_items_29) pl 32 [some (.ref A_t), some (.int p1), some (.int p2)] [.int r29]
      exact hret _ _ _ _ _ _ _ _ _ hw dX2_take_32
    · replace hw := hw.2 c_17
      refine a_aload_n (pc := 20) (i := 0) C dX2_take_20 rfl rfl ?_
      refine a_callVi (pc := 21) (As := []) (st := []) (ws' := (fun u => (w_X2_take (cxG X) A_t A_t_pending A_t_pending_items A_t_code A_t_code_items U_t_values u.1 u.2.1 u.2.2.1 t_pending_items u.2.2.2.1 u.2.2.2.2))) C (c_X2_takeClose A_t A_t_pending A_t_pending_items A_t_code A_t_code_items U_t_values hw) dX2_take_21 mth_X2_takeClose tml_X2_44 (fun _ _ h => trivial) Fz0_ok (rml (by decide) (by decide)) (Nat.le_of_ble_eq_true rfl) rfl rfl [0, 1, 2, 3, 4] [] [0, 1, 2, 3, 4] rfl rfl rfl rfl rfl rfl (ci := 2) rfl ⟨0, _, rfl⟩ (fun _ => rfl) rfl (fun _ => rfl) (fun r21 u hw => ?_)
      obtain ⟨t_depth_21, t_wantsPart_21, t_pending_size_21, t_code_size_21, t_code_items_21⟩ := u
      dsimp only at hw
      show AW X 3 0 0 (w_X2_take (cxG X) A_t A_t_pending A_t_pending_items A_t_code A_t_code_items U_t_values t_depth_21 t_wantsPart_21 t_pending_size_21 t_pending_items t_code_size_21 t_code_items_21) pl 24 [some (.ref A_t), some (.int p1), some (.int p2)] [.int r21]
      refine a_goto (pc := 24) (tgt := 32) C dX2_take_24 (by decide) ?_
      exact hret _ _ _ _ _ _ _ _ _ hw dX2_take_32
  · replace hw := hw.2 c_4
    refine a_aload_n (pc := 7) (i := 0) C dX2_take_7 rfl rfl ?_
    refine a_iload_n (pc := 8) (i := 1) C dX2_take_8 rfl rfl ?_
    refine a_iload_n (pc := 9) (i := 2) C dX2_take_9 rfl rfl ?_
    refine a_callVi (pc := 10) (As := [.int p1, .int p2]) (st := []) (ws' := (fun u => (w_X2_take (cxG X) A_t A_t_pending A_t_pending_items A_t_code A_t_code_items U_t_values u.1 u.2.1 u.2.2.2.2.1 u.2.2.2.2.2 u.2.2.1 u.2.2.2.1))) C (c_X2_takePart A_t A_t_code A_t_code_items A_t_pending A_t_pending_items U_t_values hw) dX2_take_10 mth_X2_takePart tml_X2_38 (fun _ _ h => trivial) Fz0_ok (rml (by decide) (by decide)) (Nat.le_of_ble_eq_true rfl) rfl rfl [0, 3, 4, 1, 2] [] [0, 3, 4, 1, 2] rfl rfl rfl rfl rfl rfl (ci := 2) rfl ⟨0, _, rfl⟩ (fun _ => rfl) rfl (fun _ => rfl) (fun r10 u hw => ?_)
    obtain ⟨t_depth_10, t_wantsPart_10, t_code_size_10, t_code_items_10, t_pending_size_10, t_pending_items_10⟩ := u
    dsimp only at hw
    show AW X 3 0 0 (w_X2_take (cxG X) A_t A_t_pending A_t_pending_items A_t_code A_t_code_items U_t_values t_depth_10 t_wantsPart_10 t_pending_size_10 t_pending_items_10 t_code_size_10 t_code_items_10) pl 13 [some (.ref A_t), some (.int p1), some (.int p2)] [.int r10]
    exact hret _ _ _ _ _ _ _ _ _ hw dX2_take_13
theorem c_X2_take {l : Launch} {g : GG} {pl : Pool} (A_t A_t_pending A_t_pending_items A_t_code A_t_code_items : Nat) (U_t_values : Value) {t_depth : Int32} {t_wantsPart : Int32} {t_pending_size : Int32} {t_pending_items : Nat → Int32} {t_code_size : Int32} {t_code_items : Nat → Int32} {p1 : Int32} {p2 : Int32} {post : Int32 → Int32 → Int32 → Int32 → (Nat → Int32) → Int32 → (Nat → Int32) → Prop} (hw : wp_X2_take t_depth t_wantsPart t_pending_size t_pending_items t_code_size t_code_items p1 p2 post) : MI l yX2_take cX2_take 3 (some .int) (rmL 3) g Fz0 [.ref A_t, .int p1, .int p2] (w_X2_take g A_t A_t_pending A_t_pending_items A_t_code A_t_code_items U_t_values t_depth t_wantsPart t_pending_size t_pending_items t_code_size t_code_items) pl (fun r (u : Int32 × Int32 × Int32 × (Nat → Int32) × Int32 × (Nat → Int32)) => post r u.1 u.2.1 u.2.2.1 u.2.2.2.1 u.2.2.2.2.1 u.2.2.2.2.2) (fun u => (w_X2_take g A_t A_t_pending A_t_pending_items A_t_code A_t_code_items U_t_values u.1 u.2.1 u.2.2.1 u.2.2.2.1 u.2.2.2.2.1 u.2.2.2.2.2)) (fun _ => pl) 0 0 := by
  refine met_i (own := RX2) rfl rfl (Nat.le_of_ble_eq_true rfl) (fun X hg hl C hini hret => ?_)
  subst hg
  subst hl
  exact m_X2_take C (fun r w0 w1 w2 w3 w4 w5 pc lo hp hd => hret r (w0, w1, w2, w3, w4, w5) pc lo hp hd) hw
abbrev w_X2_ends (g : GG) (A_t A_t_pending A_t_pending_items A_t_code A_t_code_items : Nat) (U_t_values U_t_depth : Value) (t_wantsPart : Int32) (t_pending_size : Int32) (t_pending_items : Nat → Int32) (t_code_size : Int32) (t_code_items : Nat → Int32) : va_W := [(A_t, ob 2 [.ref A_t_code, .ref A_t_pending, U_t_values, U_t_depth, .int t_wantsPart]), (A_t_pending, ob 0 [.ref A_t_pending_items, .int t_pending_size]), (A_t_pending_items, aI g 1000 t_pending_items), (A_t_code, ob 0 [.ref A_t_code_items, .int t_code_size]), (A_t_code_items, aI g 1000 t_code_items)]
set_option maxRecDepth 20000 in
theorem m_X2_ends {X : Ctx} (C : Cok X cX2_ends 1 RX2 (rmL 2) Fz0) {pl : Pool} {A_t A_t_pending A_t_pending_items A_t_code A_t_code_items : Nat} {U_t_values U_t_depth : Value} {t_wantsPart : Int32} {t_pending_items : Nat → Int32} {t_pending_size : Int32} {t_code_size : Int32} {t_code_items : Nat → Int32} {post : Int32 → Int32 → Int32 → (Nat → Int32) → Prop} (hret : ∀ (r : Int32) (w0 : Int32) (w1 : Int32) (w2 : Nat → Int32) (pc : Nat) (lo : List (Option Value)), b01 r → post r w0 w1 w2 → decode cX2_ends pc = .ok (.ireturn, 1) → AW X 1 0 0 (w_X2_ends (cxG X) A_t A_t_pending A_t_pending_items A_t_code A_t_code_items U_t_values U_t_depth t_wantsPart w0 t_pending_items w1 w2) pl pc lo [.int r]) (hw : wp_X2_ends t_wantsPart t_pending_items t_pending_size t_code_size t_code_items post) : AW X 1 0 0 (w_X2_ends (cxG X) A_t A_t_pending A_t_pending_items A_t_code A_t_code_items U_t_values U_t_depth t_wantsPart t_pending_size t_pending_items t_code_size t_code_items) pl 0 [some (.ref A_t)] [] := by
  refine a_aload_n (pc := 0) (i := 0) C dX2_ends_0 rfl rfl ?_
  refine a_get (pc := 1) C fl_X2_34 dX2_ends_1 0 rfl rfl ?_
  refine a_if_eq (pc := 4) (tgt := 9) C dX2_ends_4 (by decide) (fun c_4 => ?_) (fun c_4 => ?_)
  · replace hw := hw.1 c_4
    refine a_aload_n (pc := 9) (i := 0) C dX2_ends_9 rfl rfl ?_
    refine a_iconst (pc := 10) C dX2_ends_10 kc_1 ?_
    refine a_callVv (pc := 11) (As := [.int 1]) (st := []) (ws' := (fun u => (w_X2_ends (cxG X) A_t A_t_pending A_t_pending_items A_t_code A_t_code_items U_t_values U_t_depth t_wantsPart u.1 t_pending_items u.2.1 u.2.2))) C (c_X2_settle A_t A_t_pending A_t_pending_items A_t_code A_t_code_items U_t_values U_t_depth (.int t_wantsPart) hw) dX2_ends_11 mth_X2_settle tml_X2_62 (fun _ _ h => trivial) Fz0_ok (rml (by decide) (by decide)) (Nat.le_of_ble_eq_true rfl) rfl rfl [0, 1, 2, 3, 4] [] [0, 1, 2, 3, 4] rfl rfl rfl rfl rfl rfl (ci := 2) rfl ⟨0, _, rfl⟩ (fun _ => rfl) rfl (fun _ => rfl) (fun u hw => ?_)
    obtain ⟨t_pending_size_11, t_code_size_11, t_code_items_11⟩ := u
    dsimp only at hw
    show AW X 1 0 0 (w_X2_ends (cxG X) A_t A_t_pending A_t_pending_items A_t_code A_t_code_items U_t_values U_t_depth t_wantsPart t_pending_size_11 t_pending_items t_code_size_11 t_code_items_11) pl 14 [some (.ref A_t)] []
    refine a_aload_n (pc := 14) (i := 0) C dX2_ends_14 rfl rfl ?_
    refine a_get (pc := 15) C fl_X2_20 dX2_ends_15 0 rfl rfl ?_
    refine a_get (pc := 18) C fl_X2_71 dX2_ends_18 1 rfl rfl ?_
    refine a_if_ne (pc := 21) (tgt := 28) C dX2_ends_21 (by decide) (fun c_21 => ?_) (fun c_21 => ?_)
    · replace hw := hw.1 c_21
      refine a_iconst (pc := 28) C dX2_ends_28 kc_0 ?_
      exact hret _ _ _ _ _ _ (Or.inl rfl) hw dX2_ends_29
    · replace hw := hw.2 c_21
      refine a_iconst (pc := 24) C dX2_ends_24 kc_1 ?_
      refine a_goto (pc := 25) (tgt := 29) C dX2_ends_25 (by decide) ?_
      exact hret _ _ _ _ _ _ (Or.inr rfl) hw dX2_ends_29
  · replace hw := hw.2 c_4
    refine a_iconst (pc := 7) C dX2_ends_7 kc_0 ?_
    exact hret _ _ _ _ _ _ (Or.inl rfl) hw dX2_ends_8
theorem c_X2_ends {l : Launch} {g : GG} {pl : Pool} (A_t A_t_pending A_t_pending_items A_t_code A_t_code_items : Nat) (U_t_values U_t_depth : Value) {t_wantsPart : Int32} {t_pending_items : Nat → Int32} {t_pending_size : Int32} {t_code_size : Int32} {t_code_items : Nat → Int32} {post : Int32 → Int32 → Int32 → (Nat → Int32) → Prop} (hw : wp_X2_ends t_wantsPart t_pending_items t_pending_size t_code_size t_code_items post) : MI l yX2_ends cX2_ends 1 (some .boolean) (rmL 2) g Fz0 [.ref A_t] (w_X2_ends g A_t A_t_pending A_t_pending_items A_t_code A_t_code_items U_t_values U_t_depth t_wantsPart t_pending_size t_pending_items t_code_size t_code_items) pl (fun r (u : Int32 × Int32 × (Nat → Int32)) => b01 r ∧ post r u.1 u.2.1 u.2.2) (fun u => (w_X2_ends g A_t A_t_pending A_t_pending_items A_t_code A_t_code_items U_t_values U_t_depth t_wantsPart u.1 t_pending_items u.2.1 u.2.2)) (fun _ => pl) 0 0 := by
  refine mi_b01 ?_
  refine met_z (own := RX2) rfl rfl (Nat.le_of_ble_eq_true rfl) (fun X hg hl C hini hret => ?_)
  subst hg
  subst hl
  exact m_X2_ends C (fun r w0 w1 w2 pc lo z hp hd => hret r (w0, w1, w2) pc lo (b01_nar z) hp hd) hw
abbrev w_X2_link (g : GG) : va_W := []
theorem sl_X2_link_1 {x : Int32} (h0 : ¬ x = 17) (h1 : ¬ x = 18) (h2 : ¬ x = 34) (h3 : ¬ x = 35) (h4 : ¬ x = 36) (h5 : ¬ x = 37) : Op.lookupswitch.offset [(17, 59), (18, 73), (34, 87), (35, 98), (36, 109), (37, 113)] 117 x.toInt = 117 := by
  have k0 : x.toInt ≠ 17 := fun z => h0 (Int32.toInt_inj.mp (z.trans (by decide)))
  have k1 : x.toInt ≠ 18 := fun z => h1 (Int32.toInt_inj.mp (z.trans (by decide)))
  have k2 : x.toInt ≠ 34 := fun z => h2 (Int32.toInt_inj.mp (z.trans (by decide)))
  have k3 : x.toInt ≠ 35 := fun z => h3 (Int32.toInt_inj.mp (z.trans (by decide)))
  have k4 : x.toInt ≠ 36 := fun z => h4 (Int32.toInt_inj.mp (z.trans (by decide)))
  have k5 : x.toInt ≠ 37 := fun z => h5 (Int32.toInt_inj.mp (z.trans (by decide)))
  simp [Op.lookupswitch.offset, k0, k1, k2, k3, k4, k5, Ne.symm k0, Ne.symm k1, Ne.symm k2, Ne.symm k3, Ne.symm k4, Ne.symm k5]
set_option maxRecDepth 20000 in
theorem m_X2_link {X : Ctx} (C : Cok X cX2_link 3 RX2 (rmL 0) Fz0) {pl : Pool} {p0 : Int32} {p1 : Int32} {p2 : Int32} {post : Int32 → Prop} (hret : ∀ (r : Int32) (pc : Nat) (lo : List (Option Value)), post r → decode cX2_link pc = .ok (.ireturn, 1) → AW X 3 0 0 (w_X2_link (cxG X)) pl pc lo [.int r]) (hw : wp_X2_link p0 p1 p2 post) : AW X 3 0 0 (w_X2_link (cxG X)) pl 0 [some (.int p0), some (.int p1), some (.int p2)] [] := by
  refine a_iload_n (pc := 0) (i := 0) C dX2_link_0 rfl rfl ?_
  by_cases c_1_0 : p0 = 17
  · replace hw := hw.1 c_1_0
    refine a_lookup (pc := 1) (off := 59) (tgt := 60) C dX2_link_1 (by decide) (by rw [c_1_0]; decide) (by decide) ?_
    refine a_iload_n (pc := 60) (i := 1) C dX2_link_60 rfl rfl ?_
    refine a_if_eq (pc := 61) (tgt := 72) C dX2_link_61 (by decide) (fun c_61 => ?_) (fun c_61 => ?_)
    · replace hw := hw.1 c_61
      refine a_iconst (pc := 72) C dX2_link_72 kc_0 ?_
      exact hret _ _ _ hw dX2_link_73
    · replace hw := hw.2 c_61
      refine a_iload_n (pc := 64) (i := 2) C dX2_link_64 rfl rfl ?_
      refine a_if_eq (pc := 65) (tgt := 72) C dX2_link_65 (by decide) (fun c_65 => ?_) (fun c_65 => ?_)
      · replace hw := hw.1 c_65
        refine a_iconst (pc := 72) C dX2_link_72 kc_0 ?_
        exact hret _ _ _ hw dX2_link_73
      · replace hw := hw.2 c_65
        refine a_iconst (pc := 68) C dX2_link_68 kc_1 ?_
        refine a_goto (pc := 69) (tgt := 73) C dX2_link_69 (by decide) ?_
        exact hret _ _ _ hw dX2_link_73
  · by_cases c_1_1 : p0 = 18
    · replace hw := hw.2.1 c_1_1
      refine a_lookup (pc := 1) (off := 73) (tgt := 74) C dX2_link_1 (by decide) (by rw [c_1_1]; decide) (by decide) ?_
      refine a_iload_n (pc := 74) (i := 1) C dX2_link_74 rfl rfl ?_
      refine a_if_ne (pc := 75) (tgt := 82) C dX2_link_75 (by decide) (fun c_75 => ?_) (fun c_75 => ?_)
      · replace hw := hw.1 c_75
        refine a_iconst (pc := 82) C dX2_link_82 kc_1 ?_
        refine a_goto (pc := 83) (tgt := 87) C dX2_link_83 (by decide) ?_
        exact hret _ _ _ hw dX2_link_87
      · replace hw := hw.2 c_75
        refine a_iload_n (pc := 78) (i := 2) C dX2_link_78 rfl rfl ?_
        refine a_if_eq (pc := 79) (tgt := 86) C dX2_link_79 (by decide) (fun c_79 => ?_) (fun c_79 => ?_)
        · replace hw := hw.1 c_79
          refine a_iconst (pc := 86) C dX2_link_86 kc_0 ?_
          exact hret _ _ _ hw dX2_link_87
        · replace hw := hw.2 c_79
          refine a_iconst (pc := 82) C dX2_link_82 kc_1 ?_
          refine a_goto (pc := 83) (tgt := 87) C dX2_link_83 (by decide) ?_
          exact hret _ _ _ hw dX2_link_87
    · by_cases c_1_2 : p0 = 34
      · replace hw := hw.2.2.1 c_1_2
        refine a_lookup (pc := 1) (off := 87) (tgt := 88) C dX2_link_1 (by decide) (by rw [c_1_2]; decide) (by decide) ?_
        refine a_iload_n (pc := 88) (i := 1) C dX2_link_88 rfl rfl ?_
        refine a_iload_n (pc := 89) (i := 2) C dX2_link_89 rfl rfl ?_
        refine a_icmp_ge (pc := 90) (tgt := 97) C dX2_link_90 (by decide) (fun c_90 => ?_) (fun c_90 => ?_)
        · replace hw := hw.1 c_90
          refine a_iconst (pc := 97) C dX2_link_97 kc_0 ?_
          exact hret _ _ _ hw dX2_link_98
        · replace hw := hw.2 c_90
          refine a_iconst (pc := 93) C dX2_link_93 kc_1 ?_
          refine a_goto (pc := 94) (tgt := 98) C dX2_link_94 (by decide) ?_
          exact hret _ _ _ hw dX2_link_98
      · by_cases c_1_3 : p0 = 35
        · replace hw := hw.2.2.2.1 c_1_3
          refine a_lookup (pc := 1) (off := 98) (tgt := 99) C dX2_link_1 (by decide) (by rw [c_1_3]; decide) (by decide) ?_
          refine a_iload_n (pc := 99) (i := 1) C dX2_link_99 rfl rfl ?_
          refine a_iload_n (pc := 100) (i := 2) C dX2_link_100 rfl rfl ?_
          refine a_icmp_ne (pc := 101) (tgt := 108) C dX2_link_101 (by decide) (fun c_101 => ?_) (fun c_101 => ?_)
          · replace hw := hw.1 c_101
            refine a_iconst (pc := 108) C dX2_link_108 kc_0 ?_
            exact hret _ _ _ hw dX2_link_109
          · replace hw := hw.2 c_101
            refine a_iconst (pc := 104) C dX2_link_104 kc_1 ?_
            refine a_goto (pc := 105) (tgt := 109) C dX2_link_105 (by decide) ?_
            exact hret _ _ _ hw dX2_link_109
        · by_cases c_1_4 : p0 = 36
          · replace hw := hw.2.2.2.2.1 c_1_4
            refine a_lookup (pc := 1) (off := 109) (tgt := 110) C dX2_link_1 (by decide) (by rw [c_1_4]; decide) (by decide) ?_
            refine a_iload_n (pc := 110) (i := 1) C dX2_link_110 rfl rfl ?_
            refine a_iload_n (pc := 111) (i := 2) C dX2_link_111 rfl rfl ?_
            refine a_iadd (pc := 112) C dX2_link_112 ?_
            exact hret _ _ _ hw dX2_link_113
          · by_cases c_1_5 : p0 = 37
            · replace hw := hw.2.2.2.2.2.1 c_1_5
              refine a_lookup (pc := 1) (off := 113) (tgt := 114) C dX2_link_1 (by decide) (by rw [c_1_5]; decide) (by decide) ?_
              refine a_iload_n (pc := 114) (i := 1) C dX2_link_114 rfl rfl ?_
              refine a_iload_n (pc := 115) (i := 2) C dX2_link_115 rfl rfl ?_
              refine a_isub (pc := 116) C dX2_link_116 ?_
              exact hret _ _ _ hw dX2_link_117
            · replace hw := hw.2.2.2.2.2.2 c_1_0 c_1_1 c_1_2 c_1_3 c_1_4 c_1_5
              refine a_lookup (pc := 1) (off := 117) (tgt := 118) C dX2_link_1 (by decide) (sl_X2_link_1 c_1_0 c_1_1 c_1_2 c_1_3 c_1_4 c_1_5) (by decide) ?_
              refine a_iload_n (pc := 118) (i := 1) C dX2_link_118 rfl rfl ?_
              refine a_iload_n (pc := 119) (i := 2) C dX2_link_119 rfl rfl ?_
              refine a_imul (pc := 120) C dX2_link_120 ?_
              exact hret _ _ _ hw dX2_link_121
theorem c_X2_link {l : Launch} {g : GG} {pl : Pool} {p0 : Int32} {p1 : Int32} {p2 : Int32} {post : Int32 → Prop} (hw : wp_X2_link p0 p1 p2 post) : MI l yX2_link cX2_link 3 (some .int) (rmL 0) g Fz0 [.int p0, .int p1, .int p2] (w_X2_link g) pl (fun r (_ : Unit) => post r) (fun _ => (w_X2_link g)) (fun _ => pl) 0 0 := by
  refine met_i (own := RX2) rfl rfl (Nat.le_of_ble_eq_true rfl) (fun X hg hl C hini hret => ?_)
  subst hg
  subst hl
  exact m_X2_link C (fun r pc lo hp hd => hret r () pc lo hp hd) hw
abbrev w_X2_setValue (g : GG) (A_t A_t_values : Nat) (U_t_code U_t_pending U_t_depth U_t_wantsPart : Value) (t_values : Nat → Int32) : va_W := [(A_t, ob 2 [U_t_code, U_t_pending, .ref A_t_values, U_t_depth, U_t_wantsPart]), (A_t_values, aI g 64 t_values)]
set_option maxRecDepth 20000 in
theorem m_X2_setValue {X : Ctx} (C : Cok X cX2_setValue 3 RX2 (rmL 0) Fz0) {pl : Pool} {A_t A_t_values : Nat} {U_t_code U_t_pending U_t_depth U_t_wantsPart : Value} {t_values : Nat → Int32} {p1 : Int32} {p2 : Int32} {post : (Nat → Int32) → Prop} (hret : ∀ (w0 : Nat → Int32) (pc : Nat) (lo : List (Option Value)), post w0 → decode cX2_setValue pc = .ok (.return_, 1) → AW X 3 0 0 (w_X2_setValue (cxG X) A_t A_t_values U_t_code U_t_pending U_t_depth U_t_wantsPart w0) pl pc lo []) (hw : wp_X2_setValue t_values p1 p2 post) : AW X 3 0 0 (w_X2_setValue (cxG X) A_t A_t_values U_t_code U_t_pending U_t_depth U_t_wantsPart t_values) pl 0 [some (.ref A_t), some (.int p1), some (.int p2)] [] := by
  refine a_iload_n (pc := 0) (i := 1) C dX2_setValue_0 rfl rfl ?_
  refine a_if_lt (pc := 1) (tgt := 20) C dX2_setValue_1 (by decide) (fun c_1 => ?_) (fun c_1 => ?_)
  · replace hw := hw.1 c_1
    exact hret _ _ _ hw dX2_setValue_20
  · replace hw := hw.2 c_1
    refine a_iload_n (pc := 4) (i := 1) C dX2_setValue_4 rfl rfl ?_
    refine a_aload_n (pc := 5) (i := 0) C dX2_setValue_5 rfl rfl ?_
    refine a_get (pc := 6) C fl_X2_23 dX2_setValue_6 0 rfl rfl ?_
    refine a_alenI (pc := 9) C dX2_setValue_9 1 rfl ?_
    refine a_icmp_ge (pc := 10) (tgt := 20) C dX2_setValue_10 (by decide) (fun c_10 => ?_) (fun c_10 => ?_)
    · replace hw := hw.1 c_10
      exact hret _ _ _ hw dX2_setValue_20
    · replace hw := hw.2 c_10
      refine a_aload_n (pc := 13) (i := 0) C dX2_setValue_13 rfl rfl ?_
      refine a_get (pc := 14) C fl_X2_23 dX2_setValue_14 0 rfl rfl ?_
      refine a_iload_n (pc := 17) (i := 1) C dX2_setValue_17 rfl rfl ?_
      refine a_iload_n (pc := 18) (i := 2) C dX2_setValue_18 rfl rfl ?_
      obtain ⟨i_19, hw⟩ := hw
      refine a_iastW (pc := 19) C (fun h => (w_X2_setValue (cxG X) A_t A_t_values U_t_code U_t_pending U_t_depth U_t_wantsPart h)) dX2_setValue_19 1 rfl i_19 (fun _ => rfl) (fun t_values_19 e_t_values_19 => ?_)
      replace hw := hw t_values_19 e_t_values_19
      exact hret _ _ _ hw dX2_setValue_20
theorem c_X2_setValue {l : Launch} {g : GG} {pl : Pool} (A_t A_t_values : Nat) (U_t_code U_t_pending U_t_depth U_t_wantsPart : Value) {t_values : Nat → Int32} {p1 : Int32} {p2 : Int32} {post : (Nat → Int32) → Prop} (hw : wp_X2_setValue t_values p1 p2 post) : MV l yX2_setValue cX2_setValue 3 (none : Option Jvm.ClassFile.FieldType) (rmL 0) g Fz0 [.ref A_t, .int p1, .int p2] (w_X2_setValue g A_t A_t_values U_t_code U_t_pending U_t_depth U_t_wantsPart t_values) pl (fun (u : (Nat → Int32)) => post u) (fun u => (w_X2_setValue g A_t A_t_values U_t_code U_t_pending U_t_depth U_t_wantsPart u)) (fun _ => pl) 0 0 := by
  refine met_v (own := RX2) rfl rfl (Nat.le_of_ble_eq_true rfl) (fun X hg hl C hini hret => ?_)
  subst hg
  subst hl
  exact m_X2_setValue C (fun w0 pc lo hp hd => hret w0 pc lo hp hd) hw
abbrev w_X2_valueAt (g : GG) (A_t A_t_values : Nat) (U_t_code U_t_pending U_t_depth U_t_wantsPart : Value) (t_values : Nat → Int32) : va_W := [(A_t, ob 2 [U_t_code, U_t_pending, .ref A_t_values, U_t_depth, U_t_wantsPart]), (A_t_values, aI g 64 t_values)]
set_option maxRecDepth 20000 in
theorem m_X2_valueAt {X : Ctx} (C : Cok X cX2_valueAt 2 RX2 (rmL 0) Fz0) {pl : Pool} {A_t A_t_values : Nat} {U_t_code U_t_pending U_t_depth U_t_wantsPart : Value} {t_values : Nat → Int32} {p1 : Int32} {post : Int32 → Prop} (hret : ∀ (r : Int32) (pc : Nat) (lo : List (Option Value)), post r → decode cX2_valueAt pc = .ok (.ireturn, 1) → AW X 2 0 0 (w_X2_valueAt (cxG X) A_t A_t_values U_t_code U_t_pending U_t_depth U_t_wantsPart t_values) pl pc lo [.int r]) (hw : wp_X2_valueAt t_values p1 post) : AW X 2 0 0 (w_X2_valueAt (cxG X) A_t A_t_values U_t_code U_t_pending U_t_depth U_t_wantsPart t_values) pl 0 [some (.ref A_t), some (.int p1)] [] := by
  refine a_iload_n (pc := 0) (i := 1) C dX2_valueAt_0 rfl rfl ?_
  refine a_if_lt (pc := 1) (tgt := 13) C dX2_valueAt_1 (by decide) (fun c_1 => ?_) (fun c_1 => ?_)
  · replace hw := hw.1 c_1
    refine a_iconst (pc := 13) C dX2_valueAt_13 kc_0 ?_
    refine a_goto (pc := 14) (tgt := 23) C dX2_valueAt_14 (by decide) ?_
    exact hret _ _ _ hw dX2_valueAt_23
  · replace hw := hw.2 c_1
    refine a_iload_n (pc := 4) (i := 1) C dX2_valueAt_4 rfl rfl ?_
    refine a_aload_n (pc := 5) (i := 0) C dX2_valueAt_5 rfl rfl ?_
    refine a_get (pc := 6) C fl_X2_23 dX2_valueAt_6 0 rfl rfl ?_
    refine a_alenI (pc := 9) C dX2_valueAt_9 1 rfl ?_
    refine a_icmp_lt (pc := 10) (tgt := 17) C dX2_valueAt_10 (by decide) (fun c_10 => ?_) (fun c_10 => ?_)
    · replace hw := hw.1 c_10
      refine a_aload_n (pc := 17) (i := 0) C dX2_valueAt_17 rfl rfl ?_
      refine a_get (pc := 18) C fl_X2_23 dX2_valueAt_18 0 rfl rfl ?_
      refine a_iload_n (pc := 21) (i := 1) C dX2_valueAt_21 rfl rfl ?_
      obtain ⟨i_22, hw⟩ := hw
      refine a_iald (pc := 22) C dX2_valueAt_22 1 rfl i_22 ?_
      exact hret _ _ _ hw dX2_valueAt_23
    · replace hw := hw.2 c_10
      refine a_iconst (pc := 13) C dX2_valueAt_13 kc_0 ?_
      refine a_goto (pc := 14) (tgt := 23) C dX2_valueAt_14 (by decide) ?_
      exact hret _ _ _ hw dX2_valueAt_23
theorem c_X2_valueAt {l : Launch} {g : GG} {pl : Pool} (A_t A_t_values : Nat) (U_t_code U_t_pending U_t_depth U_t_wantsPart : Value) {t_values : Nat → Int32} {p1 : Int32} {post : Int32 → Prop} (hw : wp_X2_valueAt t_values p1 post) : MI l yX2_valueAt cX2_valueAt 2 (some .int) (rmL 0) g Fz0 [.ref A_t, .int p1] (w_X2_valueAt g A_t A_t_values U_t_code U_t_pending U_t_depth U_t_wantsPart t_values) pl (fun r (_ : Unit) => post r) (fun _ => (w_X2_valueAt g A_t A_t_values U_t_code U_t_pending U_t_depth U_t_wantsPart t_values)) (fun _ => pl) 0 0 := by
  refine met_i (own := RX2) rfl rfl (Nat.le_of_ble_eq_true rfl) (fun X hg hl C hini hret => ?_)
  subst hg
  subst hl
  exact m_X2_valueAt C (fun r pc lo hp hd => hret r () pc lo hp hd) hw
abbrev w_X2_value (g : GG) (A_t A_t_code A_t_code_items A_t_values : Nat) (U_t_pending U_t_depth U_t_wantsPart : Value) (t_code_size : Int32) (t_code_items : Nat → Int32) (t_values : Nat → Int32) : va_W := [(A_t, ob 2 [.ref A_t_code, U_t_pending, .ref A_t_values, U_t_depth, U_t_wantsPart]), (A_t_code, ob 0 [.ref A_t_code_items, .int t_code_size]), (A_t_code_items, aI g 1000 t_code_items), (A_t_values, aI g 64 t_values)]
set_option maxRecDepth 20000 in
theorem m_X2_value_b80 {X : Ctx} (C : Cok X cX2_value 7 RX2 (rmL 1) Fz0) {pl : Pool} {A_t A_t_code A_t_code_items A_t_values : Nat} {U_t_pending U_t_depth U_t_wantsPart : Value} {t_code_size : Int32} {t_code_items : Nat → Int32} {post : Int32 → (Nat → Int32) → Prop} (hret : ∀ (r : Int32) (w0 : Nat → Int32) (pc : Nat) (lo : List (Option Value)), post r w0 → decode cX2_value pc = .ok (.ireturn, 1) → AW X 7 0 0 (w_X2_value (cxG X) A_t A_t_code A_t_code_items A_t_values U_t_pending U_t_depth U_t_wantsPart t_code_size t_code_items w0) pl pc lo [.int r]) {x_145 : (Nat → Int32) → Int32 → Prop} {kb : (Nat → Int32) × Int32 × Int32 × Int32 × Int32 → Prop} (hkb : ∀ (t_values : Nat → Int32) (l1 : Int32) (l2 : Int32) (l3 : Int32) (l4 : Int32) , kb (t_values, l1, l2, l3, l4) → AW X 7 0 0 (w_X2_value (cxG X) A_t A_t_code A_t_code_items A_t_values U_t_pending U_t_depth U_t_wantsPart t_code_size t_code_items t_values) pl 5 [some (.ref A_t), some (.int l1), some (.int l2), some (.int l3), some (.int l4), none, none] []) (hx_145 : ∀ (t_values : Nat → Int32) (l3 : Int32) , x_145 t_values l3 → AW X 7 0 0 (w_X2_value (cxG X) A_t A_t_code A_t_code_items A_t_values U_t_pending U_t_depth U_t_wantsPart t_code_size t_code_items t_values) pl 145 [some (.ref A_t), none, none, some (.int l3), none, none, none] []) {t_values : Nat → Int32} {l1 : Int32} {l2 : Int32} {l3 : Int32} {l4 : Int32} {s0 : Int32} {s1 : Int32} (hw : wp_X2_value_b80  x_145 kb t_code_size t_code_items post t_values l1 l2 l3 l4 s0 s1) : AW X 7 0 0 (w_X2_value (cxG X) A_t A_t_code A_t_code_items A_t_values U_t_pending U_t_depth U_t_wantsPart t_code_size t_code_items t_values) pl 80 [some (.ref A_t), some (.int l1), some (.int l2), some (.int l3), some (.int l4), none, none] [.int s0, .int s1, .ref A_t] := by
  replace hw : wp_X2_setValue t_values s1 s0 (fun t_values_80 => ∀ y139 : Int32, y139 = l4 + 1 → (kb (t_values_80, l1, l2, l3, y139))) := hw
  refine a_callVv (pc := 80) (As := [.int s1, .int s0]) (st := []) (ws' := (fun u => (w_X2_value (cxG X) A_t A_t_code A_t_code_items A_t_values U_t_pending U_t_depth U_t_wantsPart t_code_size t_code_items u))) C (c_X2_setValue A_t A_t_values (.ref A_t_code) U_t_pending U_t_depth U_t_wantsPart hw) dX2_value_80 mth_X2_setValue tml_X2_77 (fun _ _ h => trivial) Fz0_ok (rml (by decide) (by decide)) (Nat.le_of_ble_eq_true rfl) rfl rfl [0, 3] [1, 2] [2, 0, 1, 3] rfl rfl rfl rfl rfl rfl (ci := 2) rfl ⟨0, _, rfl⟩ (fun _ => rfl) rfl (fun _ => rfl) (fun u hw => ?_)
  obtain ⟨t_values_80, rfl⟩ : ∃ z, z = u := ⟨_, rfl⟩
  show AW X 7 0 0 (w_X2_value (cxG X) A_t A_t_code A_t_code_items A_t_values U_t_pending U_t_depth U_t_wantsPart t_code_size t_code_items t_values_80) pl 83 [some (.ref A_t), some (.int l1), some (.int l2), some (.int l3), some (.int l4), none, none] []
  refine a_goto (pc := 83) (tgt := 139) C dX2_value_83 (by decide) ?_
  refine a_inc (pc := 139) (i := 4) C (fun y => [some (.ref A_t), some (.int l1), some (.int l2), some (.int l3), some (.int y), none, none]) dX2_value_139 rfl kc_1 (by decide) rfl (fun _ => rfl) (fun y139 e_y139 => ?_)
  replace hw := hw y139 e_y139
  refine a_goto (pc := 142) (tgt := 5) C dX2_value_142 (by decide) ?_
  exact hkb _ _ _ _ _ hw
set_option maxRecDepth 20000 in
theorem m_X2_value_b53 {X : Ctx} (C : Cok X cX2_value 7 RX2 (rmL 1) Fz0) {pl : Pool} {A_t A_t_code A_t_code_items A_t_values : Nat} {U_t_pending U_t_depth U_t_wantsPart : Value} {t_code_size : Int32} {t_code_items : Nat → Int32} {post : Int32 → (Nat → Int32) → Prop} (hret : ∀ (r : Int32) (w0 : Nat → Int32) (pc : Nat) (lo : List (Option Value)), post r w0 → decode cX2_value pc = .ok (.ireturn, 1) → AW X 7 0 0 (w_X2_value (cxG X) A_t A_t_code A_t_code_items A_t_values U_t_pending U_t_depth U_t_wantsPart t_code_size t_code_items w0) pl pc lo [.int r]) {x_145 : (Nat → Int32) → Int32 → Prop} {kb : (Nat → Int32) × Int32 × Int32 × Int32 × Int32 → Prop} (hkb : ∀ (t_values : Nat → Int32) (l1 : Int32) (l2 : Int32) (l3 : Int32) (l4 : Int32) , kb (t_values, l1, l2, l3, l4) → AW X 7 0 0 (w_X2_value (cxG X) A_t A_t_code A_t_code_items A_t_values U_t_pending U_t_depth U_t_wantsPart t_code_size t_code_items t_values) pl 5 [some (.ref A_t), some (.int l1), some (.int l2), some (.int l3), some (.int l4), none, none] []) (hx_145 : ∀ (t_values : Nat → Int32) (l3 : Int32) , x_145 t_values l3 → AW X 7 0 0 (w_X2_value (cxG X) A_t A_t_code A_t_code_items A_t_values U_t_pending U_t_depth U_t_wantsPart t_code_size t_code_items t_values) pl 145 [some (.ref A_t), none, none, some (.int l3), none, none, none] []) {t_values : Nat → Int32} {l1 : Int32} {l2 : Int32} {l3 : Int32} {l4 : Int32} {l5 : Int32} {l6 : Int32} (hw : wp_X2_value_b53  x_145 kb t_code_size t_code_items post t_values l1 l2 l3 l4 l5 l6) : AW X 7 0 0 (w_X2_value (cxG X) A_t A_t_code A_t_code_items A_t_values U_t_pending U_t_depth U_t_wantsPart t_code_size t_code_items t_values) pl 53 [some (.ref A_t), some (.int l1), some (.int l2), some (.int l3), some (.int l4), some (.int l5), some (.int l6)] [] := by
  refine a_inc (pc := 53) (i := 3) C (fun y => [some (.ref A_t), some (.int l1), some (.int l2), some (.int y), some (.int l4), some (.int l5), some (.int l6)]) dX2_value_53 rfl kc_1 (by decide) rfl (fun _ => rfl) (fun y53 e_y53 => ?_)
  replace hw := hw y53 e_y53
  refine a_aload_n (pc := 56) (i := 0) C dX2_value_56 rfl rfl ?_
  refine a_iload_n (pc := 57) (i := 3) C dX2_value_57 rfl rfl ?_
  refine a_iload (pc := 58) (i := 5) C dX2_value_58 rfl ?_
  refine a_if_lt (pc := 60) (tgt := 68) C dX2_value_60 (by decide) (fun c_60 => ?_) (fun c_60 => ?_)
  · replace hw := hw.1 c_60
    refine a_iload (pc := 68) (i := 6) C dX2_value_68 rfl ?_
    refine a_bipush (pc := 70) C dX2_value_70 kb_21 ?_
    refine a_icmp_ne (pc := 72) (tgt := 79) C dX2_value_72 (by decide) (fun c_72 => ?_) (fun c_72 => ?_)
    · replace hw := hw.1 c_72
      refine a_iload_n (pc := 79) (i := 2) C dX2_value_79 rfl rfl ?_
      refine a_msk [true, true, true, true, true, false, false] rfl ?_
      exact m_X2_value_b80 C hret (kb := kb) hkb hx_145 hw
    · replace hw := hw.2 c_72
      refine a_iload_n (pc := 75) (i := 1) C dX2_value_75 rfl rfl ?_
      refine a_goto (pc := 76) (tgt := 80) C dX2_value_76 (by decide) ?_
      refine a_msk [true, true, true, true, true, false, false] rfl ?_
      exact m_X2_value_b80 C hret (kb := kb) hkb hx_145 hw
  · replace hw := hw.2 c_60
    refine a_iload (pc := 63) (i := 5) C dX2_value_63 rfl ?_
    refine a_goto (pc := 65) (tgt := 80) C dX2_value_65 (by decide) ?_
    refine a_msk [true, true, true, true, true, false, false] rfl ?_
    exact m_X2_value_b80 C hret (kb := kb) hkb hx_145 hw
set_option maxRecDepth 20000 in
theorem m_X2_value_b108 {X : Ctx} (C : Cok X cX2_value 7 RX2 (rmL 1) Fz0) {pl : Pool} {A_t A_t_code A_t_code_items A_t_values : Nat} {U_t_pending U_t_depth U_t_wantsPart : Value} {t_code_size : Int32} {t_code_items : Nat → Int32} {post : Int32 → (Nat → Int32) → Prop} (hret : ∀ (r : Int32) (w0 : Nat → Int32) (pc : Nat) (lo : List (Option Value)), post r w0 → decode cX2_value pc = .ok (.ireturn, 1) → AW X 7 0 0 (w_X2_value (cxG X) A_t A_t_code A_t_code_items A_t_values U_t_pending U_t_depth U_t_wantsPart t_code_size t_code_items w0) pl pc lo [.int r]) {x_145 : (Nat → Int32) → Int32 → Prop} {kb : (Nat → Int32) × Int32 × Int32 × Int32 × Int32 → Prop} (hkb : ∀ (t_values : Nat → Int32) (l1 : Int32) (l2 : Int32) (l3 : Int32) (l4 : Int32) , kb (t_values, l1, l2, l3, l4) → AW X 7 0 0 (w_X2_value (cxG X) A_t A_t_code A_t_code_items A_t_values U_t_pending U_t_depth U_t_wantsPart t_code_size t_code_items t_values) pl 5 [some (.ref A_t), some (.int l1), some (.int l2), some (.int l3), some (.int l4), none, none] []) (hx_145 : ∀ (t_values : Nat → Int32) (l3 : Int32) , x_145 t_values l3 → AW X 7 0 0 (w_X2_value (cxG X) A_t A_t_code A_t_code_items A_t_values U_t_pending U_t_depth U_t_wantsPart t_code_size t_code_items t_values) pl 145 [some (.ref A_t), none, none, some (.int l3), none, none, none] []) {t_values : Nat → Int32} {l1 : Int32} {l2 : Int32} {l3 : Int32} {l4 : Int32} {s0 : Int32} {s1 : Int32} (hw : wp_X2_value_b108  x_145 kb t_code_size t_code_items post t_values l1 l2 l3 l4 s0 s1) : AW X 7 0 0 (w_X2_value (cxG X) A_t A_t_code A_t_code_items A_t_values U_t_pending U_t_depth U_t_wantsPart t_code_size t_code_items t_values) pl 108 [some (.ref A_t), some (.int l1), some (.int l2), some (.int l3), some (.int l4), none, none] [.int s0, .int s1, .ref A_t] := by
  replace hw : wp_X2_setValue t_values s1 s0 (fun t_values_108 => ∀ y139 : Int32, y139 = l4 + 1 → (kb (t_values_108, l1, l2, l3, y139))) := hw
  refine a_callVv (pc := 108) (As := [.int s1, .int s0]) (st := []) (ws' := (fun u => (w_X2_value (cxG X) A_t A_t_code A_t_code_items A_t_values U_t_pending U_t_depth U_t_wantsPart t_code_size t_code_items u))) C (c_X2_setValue A_t A_t_values (.ref A_t_code) U_t_pending U_t_depth U_t_wantsPart hw) dX2_value_108 mth_X2_setValue tml_X2_77 (fun _ _ h => trivial) Fz0_ok (rml (by decide) (by decide)) (Nat.le_of_ble_eq_true rfl) rfl rfl [0, 3] [1, 2] [2, 0, 1, 3] rfl rfl rfl rfl rfl rfl (ci := 2) rfl ⟨0, _, rfl⟩ (fun _ => rfl) rfl (fun _ => rfl) (fun u hw => ?_)
  obtain ⟨t_values_108, rfl⟩ : ∃ z, z = u := ⟨_, rfl⟩
  show AW X 7 0 0 (w_X2_value (cxG X) A_t A_t_code A_t_code_items A_t_values U_t_pending U_t_depth U_t_wantsPart t_code_size t_code_items t_values_108) pl 111 [some (.ref A_t), some (.int l1), some (.int l2), some (.int l3), some (.int l4), none, none] []
  refine a_goto (pc := 111) (tgt := 139) C dX2_value_111 (by decide) ?_
  refine a_inc (pc := 139) (i := 4) C (fun y => [some (.ref A_t), some (.int l1), some (.int l2), some (.int l3), some (.int y), none, none]) dX2_value_139 rfl kc_1 (by decide) rfl (fun _ => rfl) (fun y139 e_y139 => ?_)
  replace hw := hw y139 e_y139
  refine a_goto (pc := 142) (tgt := 5) C dX2_value_142 (by decide) ?_
  exact hkb _ _ _ _ _ hw
set_option maxRecDepth 20000 in
theorem m_X2_value_L5 {X : Ctx} (C : Cok X cX2_value 7 RX2 (rmL 1) Fz0) {pl : Pool} {A_t A_t_code A_t_code_items A_t_values : Nat} {U_t_pending U_t_depth U_t_wantsPart : Value} {t_code_size : Int32} {t_code_items : Nat → Int32} {post : Int32 → (Nat → Int32) → Prop} (hret : ∀ (r : Int32) (w0 : Nat → Int32) (pc : Nat) (lo : List (Option Value)), post r w0 → decode cX2_value pc = .ok (.ireturn, 1) → AW X 7 0 0 (w_X2_value (cxG X) A_t A_t_code A_t_code_items A_t_values U_t_pending U_t_depth U_t_wantsPart t_code_size t_code_items w0) pl pc lo [.int r]) {x_145 : (Nat → Int32) → Int32 → Prop} (hx_145 : ∀ (t_values : Nat → Int32) (l3 : Int32) , x_145 t_values l3 → AW X 7 0 0 (w_X2_value (cxG X) A_t A_t_code A_t_code_items A_t_values U_t_pending U_t_depth U_t_wantsPart t_code_size t_code_items t_values) pl 145 [some (.ref A_t), none, none, some (.int l3), none, none, none] []) : ∀ (n5 : Nat) (t_values : Nat → Int32) (l1 : Int32) (l2 : Int32) (l3 : Int32) (l4 : Int32) , lp (wp_X2_value_L5 x_145 t_code_size t_code_items post) n5 (t_values, l1, l2, l3, l4) → AW X 7 0 0 (w_X2_value (cxG X) A_t A_t_code A_t_code_items A_t_values U_t_pending U_t_depth U_t_wantsPart t_code_size t_code_items t_values) pl 5 [some (.ref A_t), some (.int l1), some (.int l2), some (.int l3), some (.int l4), none, none] [] := by
  intro n5
  induction n5 with
  | zero => exact fun _ _ _ _ _ hw => hw.elim
  | succ n5 hkb =>
    intro t_values l1 l2 l3 l4 hw
    replace hw : wp_X2_value_L5 x_145 t_code_size t_code_items post (lp (wp_X2_value_L5 x_145 t_code_size t_code_items post) n5) (t_values, l1, l2, l3, l4) := hw
    generalize lp (wp_X2_value_L5 x_145 t_code_size t_code_items post) n5 = kb at hw hkb
    refine a_iload (pc := 5) (i := 4) C dX2_value_5 rfl ?_
    refine a_aload_n (pc := 7) (i := 0) C dX2_value_7 rfl rfl ?_
    refine a_get (pc := 8) C fl_X2_14 dX2_value_8 0 rfl rfl ?_
    refine a_get (pc := 11) C fl_X2_71 dX2_value_11 1 rfl rfl ?_
    refine a_icmp_ge (pc := 14) (tgt := 145) C dX2_value_14 (by decide) (fun c_14 => ?_) (fun c_14 => ?_)
    · replace hw := hw.1 c_14
      refine a_msk [true, false, false, true, false, true, true] rfl ?_
      exact hx_145 _ _ hw
    · replace hw := hw.2 c_14
      refine a_aload_n (pc := 17) (i := 0) C dX2_value_17 rfl rfl ?_
      refine a_get (pc := 18) C fl_X2_14 dX2_value_18 0 rfl rfl ?_
      refine a_iload (pc := 21) (i := 4) C dX2_value_21 rfl ?_
      refine a_callVi (pc := 23) (As := [.int l4]) (st := []) (ws' := (fun _ => (w_X2_value (cxG X) A_t A_t_code A_t_code_items A_t_values U_t_pending U_t_depth U_t_wantsPart t_code_size t_code_items t_values))) C (c_X0_at A_t_code A_t_code_items 1000 hw) dX2_value_23 mth_X0_at tml_X2_74 (fun _ _ h => trivial) Fz0_ok (rml (by decide) (by decide)) (Nat.le_of_ble_eq_true rfl) rfl rfl [1, 2] [0, 3] [0, 2, 3, 1] rfl rfl rfl rfl rfl rfl (ci := 0) rfl ⟨0, _, rfl⟩ (fun _ => rfl) rfl (fun _ => rfl) (fun r23 u hw => ?_)
      show AW X 7 0 0 (w_X2_value (cxG X) A_t A_t_code A_t_code_items A_t_values U_t_pending U_t_depth U_t_wantsPart t_code_size t_code_items t_values) pl 26 [some (.ref A_t), some (.int l1), some (.int l2), some (.int l3), some (.int l4), none, none] [.int r23]
      refine s_istore (pc := 26) (i := 5) (lo' := [some (.ref A_t), some (.int l1), some (.int l2), some (.int l3), some (.int l4), some (.int r23), none]) C dX2_value_26 (by decide) rfl rfl ?_
      refine a_iconst (pc := 28) C dX2_value_28 kc_m1 ?_
      refine a_iload (pc := 29) (i := 5) C dX2_value_29 rfl ?_
      refine a_isub (pc := 31) C dX2_value_31 ?_
      refine a_topi (fun x32 e_x32 => ?_)
      replace hw := hw x32 e_x32
      refine s_istore (pc := 32) (i := 6) (lo' := [some (.ref A_t), some (.int l1), some (.int l2), some (.int l3), some (.int l4), some (.int r23), some (.int x32)]) C dX2_value_32 (by decide) rfl rfl ?_
      refine a_iload (pc := 34) (i := 5) C dX2_value_34 rfl ?_
      refine a_if_ge (pc := 36) (tgt := 53) C dX2_value_36 (by decide) (fun c_36 => ?_) (fun c_36 => ?_)
      · replace hw := hw.1 c_36
        exact m_X2_value_b53 C hret (kb := kb) hkb hx_145 hw
      · replace hw := hw.2 c_36
        refine a_iload (pc := 39) (i := 6) C dX2_value_39 rfl ?_
        refine a_bipush (pc := 41) C dX2_value_41 kb_20 ?_
        refine a_icmp_eq (pc := 43) (tgt := 53) C dX2_value_43 (by decide) (fun c_43 => ?_) (fun c_43 => ?_)
        · replace hw := hw.1 c_43
          exact m_X2_value_b53 C hret (kb := kb) hkb hx_145 hw
        · replace hw := hw.2 c_43
          refine a_iload (pc := 46) (i := 6) C dX2_value_46 rfl ?_
          refine a_bipush (pc := 48) C dX2_value_48 kb_21 ?_
          refine a_icmp_ne (pc := 50) (tgt := 86) C dX2_value_50 (by decide) (fun c_50 => ?_) (fun c_50 => ?_)
          · replace hw := hw.1 c_50
            refine a_iload (pc := 86) (i := 6) C dX2_value_86 rfl ?_
            refine a_bipush (pc := 88) C dX2_value_88 kb_19 ?_
            refine a_icmp_ne (pc := 90) (tgt := 114) C dX2_value_90 (by decide) (fun c_90 => ?_) (fun c_90 => ?_)
            · replace hw := hw.1 c_90
              refine a_inc (pc := 114) (i := 3) C (fun y => [some (.ref A_t), some (.int l1), some (.int l2), some (.int y), some (.int l4), some (.int r23), some (.int x32)]) dX2_value_114 rfl kc_m1 (by decide) rfl (fun _ => rfl) (fun y114 e_y114 => ?_)
              replace hw := hw y114 e_y114
              refine a_aload_n (pc := 117) (i := 0) C dX2_value_117 rfl rfl ?_
              refine a_iload_n (pc := 118) (i := 3) C dX2_value_118 rfl rfl ?_
              refine a_iload (pc := 119) (i := 6) C dX2_value_119 rfl ?_
              refine a_aload_n (pc := 121) (i := 0) C dX2_value_121 rfl rfl ?_
              refine a_iload_n (pc := 122) (i := 3) C dX2_value_122 rfl rfl ?_
              refine a_callVi (pc := 123) (As := [.int y114]) (st := [.int x32, .int y114, .ref A_t]) (ws' := (fun _ => (w_X2_value (cxG X) A_t A_t_code A_t_code_items A_t_values U_t_pending U_t_depth U_t_wantsPart t_code_size t_code_items t_values))) C (c_X2_valueAt A_t A_t_values (.ref A_t_code) U_t_pending U_t_depth U_t_wantsPart hw) dX2_value_123 mth_X2_valueAt tml_X2_81 (fun _ _ h => trivial) Fz0_ok (rml (by decide) (by decide)) (Nat.le_of_ble_eq_true rfl) rfl rfl [0, 3] [1, 2] [2, 0, 1, 3] rfl rfl rfl rfl rfl rfl (ci := 2) rfl ⟨0, _, rfl⟩ (fun _ => rfl) rfl (fun _ => rfl) (fun r123 u hw => ?_)
              show AW X 7 0 0 (w_X2_value (cxG X) A_t A_t_code A_t_code_items A_t_values U_t_pending U_t_depth U_t_wantsPart t_code_size t_code_items t_values) pl 126 [some (.ref A_t), some (.int l1), some (.int l2), some (.int y114), some (.int l4), some (.int r23), some (.int x32)] [.int r123, .int x32, .int y114, .ref A_t]
              refine a_aload_n (pc := 126) (i := 0) C dX2_value_126 rfl rfl ?_
              refine a_iload_n (pc := 127) (i := 3) C dX2_value_127 rfl rfl ?_
              refine a_iconst (pc := 128) C dX2_value_128 kc_1 ?_
              refine a_iadd (pc := 129) C dX2_value_129 ?_
              refine a_callVi (pc := 130) (As := [.int (y114 + 1)]) (st := [.int r123, .int x32, .int y114, .ref A_t]) (ws' := (fun _ => (w_X2_value (cxG X) A_t A_t_code A_t_code_items A_t_values U_t_pending U_t_depth U_t_wantsPart t_code_size t_code_items t_values))) C (c_X2_valueAt A_t A_t_values (.ref A_t_code) U_t_pending U_t_depth U_t_wantsPart hw) dX2_value_130 mth_X2_valueAt tml_X2_81 (fun _ _ h => trivial) Fz0_ok (rml (by decide) (by decide)) (Nat.le_of_ble_eq_true rfl) rfl rfl [0, 3] [1, 2] [2, 0, 1, 3] rfl rfl rfl rfl rfl rfl (ci := 2) rfl ⟨0, _, rfl⟩ (fun _ => rfl) rfl (fun _ => rfl) (fun r130 u hw => ?_)
              show AW X 7 0 0 (w_X2_value (cxG X) A_t A_t_code A_t_code_items A_t_values U_t_pending U_t_depth U_t_wantsPart t_code_size t_code_items t_values) pl 133 [some (.ref A_t), some (.int l1), some (.int l2), some (.int y114), some (.int l4), some (.int r23), some (.int x32)] [.int r130, .int r123, .int x32, .int y114, .ref A_t]
              refine a_callSi (pc := 133) (As := [.int x32, .int r123, .int r130]) (st := [.int y114, .ref A_t]) (ws' := (fun _ => (w_X2_value (cxG X) A_t A_t_code A_t_code_items A_t_values U_t_pending U_t_depth U_t_wantsPart t_code_size t_code_items t_values))) C (c_X2_link hw) dX2_value_133 mth_X2_link tml_X2_84 (fun _ _ h => trivial) Fz0_ok (rml (by decide) (by decide)) (Nat.le_of_ble_eq_true rfl) rfl rfl [] [0, 1, 2, 3] [0, 1, 2, 3] rfl rfl rfl rfl rfl rfl (fun _ => rfl) rfl (fun _ => rfl) (fun r133 u hw => ?_)
              show AW X 7 0 0 (w_X2_value (cxG X) A_t A_t_code A_t_code_items A_t_values U_t_pending U_t_depth U_t_wantsPart t_code_size t_code_items t_values) pl 136 [some (.ref A_t), some (.int l1), some (.int l2), some (.int y114), some (.int l4), some (.int r23), some (.int x32)] [.int r133, .int y114, .ref A_t]
              refine a_callVv (pc := 136) (As := [.int y114, .int r133]) (st := []) (ws' := (fun u => (w_X2_value (cxG X) A_t A_t_code A_t_code_items A_t_values U_t_pending U_t_depth U_t_wantsPart t_code_size t_code_items u))) C (c_X2_setValue A_t A_t_values (.ref A_t_code) U_t_pending U_t_depth U_t_wantsPart hw) dX2_value_136 mth_X2_setValue tml_X2_77 (fun _ _ h => trivial) Fz0_ok (rml (by decide) (by decide)) (Nat.le_of_ble_eq_true rfl) rfl rfl [0, 3] [1, 2] [2, 0, 1, 3] rfl rfl rfl rfl rfl rfl (ci := 2) rfl ⟨0, _, rfl⟩ (fun _ => rfl) rfl (fun _ => rfl) (fun u hw => ?_)
              obtain ⟨t_values_136, rfl⟩ : ∃ z, z = u := ⟨_, rfl⟩
              show AW X 7 0 0 (w_X2_value (cxG X) A_t A_t_code A_t_code_items A_t_values U_t_pending U_t_depth U_t_wantsPart t_code_size t_code_items t_values_136) pl 139 [some (.ref A_t), some (.int l1), some (.int l2), some (.int y114), some (.int l4), some (.int r23), some (.int x32)] []
              refine a_inc (pc := 139) (i := 4) C (fun y => [some (.ref A_t), some (.int l1), some (.int l2), some (.int y114), some (.int y), some (.int r23), some (.int x32)]) dX2_value_139 rfl kc_1 (by decide) rfl (fun _ => rfl) (fun y139 e_y139 => ?_)
              replace hw := hw y139 e_y139
              refine a_goto (pc := 142) (tgt := 5) C dX2_value_142 (by decide) ?_
              refine a_msk [true, true, true, true, true, false, false] rfl ?_
              exact hkb _ _ _ _ _ hw
            · replace hw := hw.2 c_90
              refine a_aload_n (pc := 93) (i := 0) C dX2_value_93 rfl rfl ?_
              refine a_iload_n (pc := 94) (i := 3) C dX2_value_94 rfl rfl ?_
              refine a_aload_n (pc := 95) (i := 0) C dX2_value_95 rfl rfl ?_
              refine a_iload_n (pc := 96) (i := 3) C dX2_value_96 rfl rfl ?_
              refine a_callVi (pc := 97) (As := [.int l3]) (st := [.int l3, .ref A_t]) (ws' := (fun _ => (w_X2_value (cxG X) A_t A_t_code A_t_code_items A_t_values U_t_pending U_t_depth U_t_wantsPart t_code_size t_code_items t_values))) C (c_X2_valueAt A_t A_t_values (.ref A_t_code) U_t_pending U_t_depth U_t_wantsPart hw) dX2_value_97 mth_X2_valueAt tml_X2_81 (fun _ _ h => trivial) Fz0_ok (rml (by decide) (by decide)) (Nat.le_of_ble_eq_true rfl) rfl rfl [0, 3] [1, 2] [2, 0, 1, 3] rfl rfl rfl rfl rfl rfl (ci := 2) rfl ⟨0, _, rfl⟩ (fun _ => rfl) rfl (fun _ => rfl) (fun r97 u hw => ?_)
              show AW X 7 0 0 (w_X2_value (cxG X) A_t A_t_code A_t_code_items A_t_values U_t_pending U_t_depth U_t_wantsPart t_code_size t_code_items t_values) pl 100 [some (.ref A_t), some (.int l1), some (.int l2), some (.int l3), some (.int l4), some (.int r23), some (.int x32)] [.int r97, .int l3, .ref A_t]
              refine a_if_ne (pc := 100) (tgt := 107) C dX2_value_100 (by decide) (fun c_100 => ?_) (fun c_100 => ?_)
              · replace hw := hw.1 c_100
                refine a_iconst (pc := 107) C dX2_value_107 kc_0 ?_
                refine a_msk [true, true, true, true, true, false, false] rfl ?_
                exact m_X2_value_b108 C hret (kb := kb) hkb hx_145 hw
              · replace hw := hw.2 c_100
                refine a_iconst (pc := 103) C dX2_value_103 kc_1 ?_
                refine a_goto (pc := 104) (tgt := 108) C dX2_value_104 (by decide) ?_
                refine a_msk [true, true, true, true, true, false, false] rfl ?_
                exact m_X2_value_b108 C hret (kb := kb) hkb hx_145 hw
          · replace hw := hw.2 c_50
            exact m_X2_value_b53 C hret (kb := kb) hkb hx_145 hw
set_option maxRecDepth 20000 in
theorem m_X2_value {X : Ctx} (C : Cok X cX2_value 7 RX2 (rmL 1) Fz0) {pl : Pool} {A_t A_t_code A_t_code_items A_t_values : Nat} {U_t_pending U_t_depth U_t_wantsPart : Value} {t_code_size : Int32} {t_code_items : Nat → Int32} {t_values : Nat → Int32} {p1 : Int32} {p2 : Int32} {post : Int32 → (Nat → Int32) → Prop} (hret : ∀ (r : Int32) (w0 : Nat → Int32) (pc : Nat) (lo : List (Option Value)), post r w0 → decode cX2_value pc = .ok (.ireturn, 1) → AW X 7 0 0 (w_X2_value (cxG X) A_t A_t_code A_t_code_items A_t_values U_t_pending U_t_depth U_t_wantsPart t_code_size t_code_items w0) pl pc lo [.int r]) (hw : wp_X2_value t_code_size t_code_items t_values p1 p2 post) : AW X 7 0 0 (w_X2_value (cxG X) A_t A_t_code A_t_code_items A_t_values U_t_pending U_t_depth U_t_wantsPart t_code_size t_code_items t_values) pl 0 [some (.ref A_t), some (.int p1), some (.int p2), none, none, none, none] [] := by
  refine a_iconst (pc := 0) C dX2_value_0 kc_m1 ?_
  refine s_istore_n (pc := 1) (i := 3) (lo' := [some (.ref A_t), some (.int p1), some (.int p2), some (.int (-1)), none, none, none]) C dX2_value_1 rfl (by decide) rfl rfl ?_
  refine a_iconst (pc := 2) C dX2_value_2 kc_0 ?_
  refine s_istore (pc := 3) (i := 4) (lo' := [some (.ref A_t), some (.int p1), some (.int p2), some (.int (-1)), some (.int 0), none, none]) C dX2_value_3 (by decide) rfl rfl ?_
  obtain ⟨n5, hw⟩ := hw
  refine m_X2_value_L5 C hret (fun t_values l3 hw => ?_) n5 _ _ _ _ _ hw
  refine a_aload_n (pc := 145) (i := 0) C dX2_value_145 rfl rfl ?_
  refine a_iload_n (pc := 146) (i := 3) C dX2_value_146 rfl rfl ?_
  refine a_callVi (pc := 147) (As := [.int l3]) (st := []) (ws' := (fun _ => (w_X2_value (cxG X) A_t A_t_code A_t_code_items A_t_values U_t_pending U_t_depth U_t_wantsPart t_code_size t_code_items t_values))) C (c_X2_valueAt A_t A_t_values (.ref A_t_code) U_t_pending U_t_depth U_t_wantsPart hw) dX2_value_147 mth_X2_valueAt tml_X2_81 (fun _ _ h => trivial) Fz0_ok (rml (by decide) (by decide)) (Nat.le_of_ble_eq_true rfl) rfl rfl [0, 3] [1, 2] [2, 0, 1, 3] rfl rfl rfl rfl rfl rfl (ci := 2) rfl ⟨0, _, rfl⟩ (fun _ => rfl) rfl (fun _ => rfl) (fun r147 u hw => ?_)
  show AW X 7 0 0 (w_X2_value (cxG X) A_t A_t_code A_t_code_items A_t_values U_t_pending U_t_depth U_t_wantsPart t_code_size t_code_items t_values) pl 150 [some (.ref A_t), none, none, some (.int l3), none, none, none] [.int r147]
  exact hret _ _ _ _ hw dX2_value_150
theorem c_X2_value {l : Launch} {g : GG} {pl : Pool} (A_t A_t_code A_t_code_items A_t_values : Nat) (U_t_pending U_t_depth U_t_wantsPart : Value) {t_code_size : Int32} {t_code_items : Nat → Int32} {t_values : Nat → Int32} {p1 : Int32} {p2 : Int32} {post : Int32 → (Nat → Int32) → Prop} (hw : wp_X2_value t_code_size t_code_items t_values p1 p2 post) : MI l yX2_value cX2_value 7 (some .int) (rmL 1) g Fz0 [.ref A_t, .int p1, .int p2] (w_X2_value g A_t A_t_code A_t_code_items A_t_values U_t_pending U_t_depth U_t_wantsPart t_code_size t_code_items t_values) pl (fun r (u : (Nat → Int32)) => post r u) (fun u => (w_X2_value g A_t A_t_code A_t_code_items A_t_values U_t_pending U_t_depth U_t_wantsPart t_code_size t_code_items u)) (fun _ => pl) 0 0 := by
  refine met_i (own := RX2) rfl rfl (Nat.le_of_ble_eq_true rfl) (fun X hg hl C hini hret => ?_)
  subst hg
  subst hl
  exact m_X2_value C (fun r w0 pc lo hp hd => hret r w0 pc lo hp hd) hw
