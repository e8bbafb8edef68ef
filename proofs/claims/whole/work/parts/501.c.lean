abbrev w_X0_add (g : GG) (A_t A_t_items : Nat) (n_t_items : Nat) (t_size : Int32) (t_items : Nat → Int32) : va_W := [(A_t, ob 0 [.ref A_t_items, .int t_size]), (A_t_items, aI g n_t_items t_items)]
set_option maxRecDepth 20000 in
theorem m_X0_add {X : Ctx} (C : Cok X cX0_add 2 RX0 (rmL 0) Fz0) {pl : Pool} {A_t A_t_items : Nat} {n_t_items : Nat} {t_size : Int32} {t_items : Nat → Int32} {p1 : Int32} {post : Int32 → Int32 → (Nat → Int32) → Prop} (hret : ∀ (r : Int32) (w0 : Int32) (w1 : Nat → Int32) (pc : Nat) (lo : List (Option Value)), b01 r → post r w0 w1 → decode cX0_add pc = .ok (.ireturn, 1) → AW X 2 0 0 (w_X0_add (cxG X) A_t A_t_items n_t_items w0 w1) pl pc lo [.int r]) (hw : wp_X0_add n_t_items t_size t_items p1 post) : AW X 2 0 0 (w_X0_add (cxG X) A_t A_t_items n_t_items t_size t_items) pl 0 [some (.ref A_t), some (.int p1)] [] := by
  refine a_aload_n (pc := 0) (i := 0) C dX0_add_0 rfl rfl ?_
  refine a_get (pc := 1) C fl_X0_21 dX0_add_1 0 rfl rfl ?_
  refine a_if_lt (pc := 4) (tgt := 19) C dX0_add_4 (by decide) (fun c_4 => ?_) (fun c_4 => ?_)
  · replace hw := hw.1 c_4
    refine a_iconst (pc := 19) C dX0_add_19 kc_0 ?_
    exact hret _ _ _ _ _ (Or.inl rfl) hw dX0_add_20
  · replace hw := hw.2 c_4
    refine a_aload_n (pc := 7) (i := 0) C dX0_add_7 rfl rfl ?_
    refine a_get (pc := 8) C fl_X0_21 dX0_add_8 0 rfl rfl ?_
    refine a_aload_n (pc := 11) (i := 0) C dX0_add_11 rfl rfl ?_
    refine a_get (pc := 12) C fl_X0_15 dX0_add_12 0 rfl rfl ?_
    refine a_alenI (pc := 15) C dX0_add_15 1 rfl ?_
    refine a_icmp_lt (pc := 16) (tgt := 21) C dX0_add_16 (by decide) (fun c_16 => ?_) (fun c_16 => ?_)
    · replace hw := hw.1 c_16
      refine a_aload_n (pc := 21) (i := 0) C dX0_add_21 rfl rfl ?_
      refine a_get (pc := 22) C fl_X0_15 dX0_add_22 0 rfl rfl ?_
      refine a_aload_n (pc := 25) (i := 0) C dX0_add_25 rfl rfl ?_
      refine a_get (pc := 26) C fl_X0_21 dX0_add_26 0 rfl rfl ?_
      refine a_iload_n (pc := 29) (i := 1) C dX0_add_29 rfl rfl ?_
      obtain ⟨i_30, hw⟩ := hw
      refine a_iastW (pc := 30) C (fun h => (w_X0_add (cxG X) A_t A_t_items n_t_items t_size h)) dX0_add_30 1 rfl i_30 (fun _ => rfl) (fun t_items_30 e_t_items_30 => ?_)
      replace hw := hw t_items_30 e_t_items_30
      refine a_aload_n (pc := 31) (i := 0) C dX0_add_31 rfl rfl ?_
      refine a_dup (pc := 32) C dX0_add_32 rfl ?_
      refine a_get (pc := 33) C fl_X0_21 dX0_add_33 0 rfl rfl ?_
      refine a_iconst (pc := 36) C dX0_add_36 kc_1 ?_
      refine a_iadd (pc := 37) C dX0_add_37 ?_
      refine a_topi (fun x38 e_x38 => ?_)
      replace hw := hw x38 e_x38
      refine a_putW (pc := 38) (ws' := (w_X0_add (cxG X) A_t A_t_items n_t_items x38 t_items_30)) C fl_X0_21 pu_0_1 dX0_add_38 0 rfl rfl rfl (Nat.le_of_ble_eq_true rfl) rfl ?_
      refine a_iconst (pc := 41) C dX0_add_41 kc_1 ?_
      exact hret _ _ _ _ _ (Or.inr rfl) hw dX0_add_42
    · replace hw := hw.2 c_16
      refine a_iconst (pc := 19) C dX0_add_19 kc_0 ?_
      exact hret _ _ _ _ _ (Or.inl rfl) hw dX0_add_20
theorem c_X0_add {l : Launch} {g : GG} {pl : Pool} (A_t A_t_items : Nat) (n_t_items : Nat) {t_size : Int32} {t_items : Nat → Int32} {p1 : Int32} {post : Int32 → Int32 → (Nat → Int32) → Prop} (hw : wp_X0_add n_t_items t_size t_items p1 post) : MI l yX0_add cX0_add 2 (some .boolean) (rmL 0) g Fz0 [.ref A_t, .int p1] (w_X0_add g A_t A_t_items n_t_items t_size t_items) pl (fun r (u : Int32 × (Nat → Int32)) => b01 r ∧ post r u.1 u.2) (fun u => (w_X0_add g A_t A_t_items n_t_items u.1 u.2)) (fun _ => pl) 0 0 := by
  refine mi_b01 ?_
  refine met_z (own := RX0) rfl rfl (Nat.le_of_ble_eq_true rfl) (fun X hg hl C hini hret => ?_)
  subst hg
  subst hl
  exact m_X0_add C (fun r w0 w1 pc lo z hp hd => hret r (w0, w1) pc lo (b01_nar z) hp hd) hw
abbrev w_X0_at (g : GG) (A_t A_t_items : Nat) (n_t_items : Nat) (t_size : Int32) (t_items : Nat → Int32) : va_W := [(A_t, ob 0 [.ref A_t_items, .int t_size]), (A_t_items, aI g n_t_items t_items)]
set_option maxRecDepth 20000 in
theorem m_X0_at {X : Ctx} (C : Cok X cX0_at 2 RX0 (rmL 0) Fz0) {pl : Pool} {A_t A_t_items : Nat} {n_t_items : Nat} {t_size : Int32} {t_items : Nat → Int32} {p1 : Int32} {post : Int32 → Prop} (hret : ∀ (r : Int32) (pc : Nat) (lo : List (Option Value)), post r → decode cX0_at pc = .ok (.ireturn, 1) → AW X 2 0 0 (w_X0_at (cxG X) A_t A_t_items n_t_items t_size t_items) pl pc lo [.int r]) (hw : wp_X0_at n_t_items t_size t_items p1 post) : AW X 2 0 0 (w_X0_at (cxG X) A_t A_t_items n_t_items t_size t_items) pl 0 [some (.ref A_t), some (.int p1)] [] := by
  refine a_iload_n (pc := 0) (i := 1) C dX0_at_0 rfl rfl ?_
  refine a_if_lt (pc := 1) (tgt := 21) C dX0_at_1 (by decide) (fun c_1 => ?_) (fun c_1 => ?_)
  · replace hw := hw.1 c_1
    refine a_iconst (pc := 21) C dX0_at_21 kc_m1 ?_
    refine a_goto (pc := 22) (tgt := 31) C dX0_at_22 (by decide) ?_
    exact hret _ _ _ hw dX0_at_31
  · replace hw := hw.2 c_1
    refine a_iload_n (pc := 4) (i := 1) C dX0_at_4 rfl rfl ?_
    refine a_aload_n (pc := 5) (i := 0) C dX0_at_5 rfl rfl ?_
    refine a_get (pc := 6) C fl_X0_21 dX0_at_6 0 rfl rfl ?_
    refine a_icmp_ge (pc := 9) (tgt := 21) C dX0_at_9 (by decide) (fun c_9 => ?_) (fun c_9 => ?_)
    · replace hw := hw.1 c_9
      refine a_iconst (pc := 21) C dX0_at_21 kc_m1 ?_
      refine a_goto (pc := 22) (tgt := 31) C dX0_at_22 (by decide) ?_
      exact hret _ _ _ hw dX0_at_31
    · replace hw := hw.2 c_9
      refine a_iload_n (pc := 12) (i := 1) C dX0_at_12 rfl rfl ?_
      refine a_aload_n (pc := 13) (i := 0) C dX0_at_13 rfl rfl ?_
      refine a_get (pc := 14) C fl_X0_15 dX0_at_14 0 rfl rfl ?_
      refine a_alenI (pc := 17) C dX0_at_17 1 rfl ?_
      refine a_icmp_lt (pc := 18) (tgt := 25) C dX0_at_18 (by decide) (fun c_18 => ?_) (fun c_18 => ?_)
      · replace hw := hw.1 c_18
        refine a_aload_n (pc := 25) (i := 0) C dX0_at_25 rfl rfl ?_
        refine a_get (pc := 26) C fl_X0_15 dX0_at_26 0 rfl rfl ?_
        refine a_iload_n (pc := 29) (i := 1) C dX0_at_29 rfl rfl ?_
        obtain ⟨i_30, hw⟩ := hw
        refine a_iald (pc := 30) C dX0_at_30 1 rfl i_30 ?_
        exact hret _ _ _ hw dX0_at_31
      · replace hw := hw.2 c_18
        refine a_iconst (pc := 21) C dX0_at_21 kc_m1 ?_
        refine a_goto (pc := 22) (tgt := 31) C dX0_at_22 (by decide) ?_
        exact hret _ _ _ hw dX0_at_31
theorem c_X0_at {l : Launch} {g : GG} {pl : Pool} (A_t A_t_items : Nat) (n_t_items : Nat) {t_size : Int32} {t_items : Nat → Int32} {p1 : Int32} {post : Int32 → Prop} (hw : wp_X0_at n_t_items t_size t_items p1 post) : MI l yX0_at cX0_at 2 (some .int) (rmL 0) g Fz0 [.ref A_t, .int p1] (w_X0_at g A_t A_t_items n_t_items t_size t_items) pl (fun r (_ : Unit) => post r) (fun _ => (w_X0_at g A_t A_t_items n_t_items t_size t_items)) (fun _ => pl) 0 0 := by
  refine met_i (own := RX0) rfl rfl (Nat.le_of_ble_eq_true rfl) (fun X hg hl C hini hret => ?_)
  subst hg
  subst hl
  exact m_X0_at C (fun r pc lo hp hd => hret r () pc lo hp hd) hw
abbrev w_X0_last (g : GG) (A_t A_t_items : Nat) (n_t_items : Nat) (t_size : Int32) (t_items : Nat → Int32) : va_W := [(A_t, ob 0 [.ref A_t_items, .int t_size]), (A_t_items, aI g n_t_items t_items)]
set_option maxRecDepth 20000 in
theorem m_X0_last {X : Ctx} (C : Cok X cX0_last 1 RX0 (rmL 0) Fz0) {pl : Pool} {A_t A_t_items : Nat} {n_t_items : Nat} {t_size : Int32} {t_items : Nat → Int32} {post : Int32 → Prop} (hret : ∀ (r : Int32) (pc : Nat) (lo : List (Option Value)), post r → decode cX0_last pc = .ok (.ireturn, 1) → AW X 1 0 0 (w_X0_last (cxG X) A_t A_t_items n_t_items t_size t_items) pl pc lo [.int r]) (hw : wp_X0_last n_t_items t_size t_items post) : AW X 1 0 0 (w_X0_last (cxG X) A_t A_t_items n_t_items t_size t_items) pl 0 [some (.ref A_t)] [] := by
  refine a_aload_n (pc := 0) (i := 0) C dX0_last_0 rfl rfl ?_
  refine a_get (pc := 1) C fl_X0_21 dX0_last_1 0 rfl rfl ?_
  refine a_iconst (pc := 4) C dX0_last_4 kc_1 ?_
  refine a_icmp_lt (pc := 5) (tgt := 20) C dX0_last_5 (by decide) (fun c_5 => ?_) (fun c_5 => ?_)
  · replace hw := hw.1 c_5
    refine a_iconst (pc := 20) C dX0_last_20 kc_m1 ?_
    refine a_goto (pc := 21) (tgt := 35) C dX0_last_21 (by decide) ?_
    exact hret _ _ _ hw dX0_last_35
  · replace hw := hw.2 c_5
    refine a_aload_n (pc := 8) (i := 0) C dX0_last_8 rfl rfl ?_
    refine a_get (pc := 9) C fl_X0_21 dX0_last_9 0 rfl rfl ?_
    refine a_aload_n (pc := 12) (i := 0) C dX0_last_12 rfl rfl ?_
    refine a_get (pc := 13) C fl_X0_15 dX0_last_13 0 rfl rfl ?_
    refine a_alenI (pc := 16) C dX0_last_16 1 rfl ?_
    refine a_icmp_le (pc := 17) (tgt := 24) C dX0_last_17 (by decide) (fun c_17 => ?_) (fun c_17 => ?_)
    · replace hw := hw.1 c_17
      refine a_aload_n (pc := 24) (i := 0) C dX0_last_24 rfl rfl ?_
      refine a_get (pc := 25) C fl_X0_15 dX0_last_25 0 rfl rfl ?_
      refine a_aload_n (pc := 28) (i := 0) C dX0_last_28 rfl rfl ?_
      refine a_get (pc := 29) C fl_X0_21 dX0_last_29 0 rfl rfl ?_
      refine a_iconst (pc := 32) C dX0_last_32 kc_1 ?_
      refine a_isub (pc := 33) C dX0_last_33 ?_
      refine a_topi (fun x34 e_x34 => ?_)
      replace hw := hw x34 e_x34
      obtain ⟨i_34, hw⟩ := hw
      refine a_iald (pc := 34) C dX0_last_34 1 rfl i_34 ?_
      exact hret _ _ _ hw dX0_last_35
    · replace hw := hw.2 c_17
      refine a_iconst (pc := 20) C dX0_last_20 kc_m1 ?_
      refine a_goto (pc := 21) (tgt := 35) C dX0_last_21 (by decide) ?_
      exact hret _ _ _ hw dX0_last_35
theorem c_X0_last {l : Launch} {g : GG} {pl : Pool} (A_t A_t_items : Nat) (n_t_items : Nat) {t_size : Int32} {t_items : Nat → Int32} {post : Int32 → Prop} (hw : wp_X0_last n_t_items t_size t_items post) : MI l yX0_last cX0_last 1 (some .int) (rmL 0) g Fz0 [.ref A_t] (w_X0_last g A_t A_t_items n_t_items t_size t_items) pl (fun r (_ : Unit) => post r) (fun _ => (w_X0_last g A_t A_t_items n_t_items t_size t_items)) (fun _ => pl) 0 0 := by
  refine met_i (own := RX0) rfl rfl (Nat.le_of_ble_eq_true rfl) (fun X hg hl C hini hret => ?_)
  subst hg
  subst hl
  exact m_X0_last C (fun r pc lo hp hd => hret r () pc lo hp hd) hw
abbrev w_X0_dropLast (g : GG) (A_t : Nat) (U_t_items : Value) (t_size : Int32) : va_W := [(A_t, ob 0 [U_t_items, .int t_size])]
set_option maxRecDepth 20000 in
theorem m_X0_dropLast {X : Ctx} (C : Cok X cX0_dropLast 1 RX0 (rmL 0) Fz0) {pl : Pool} {A_t : Nat} {U_t_items : Value} {t_size : Int32} {post : Int32 → Prop} (hret : ∀ (w0 : Int32) (pc : Nat) (lo : List (Option Value)), post w0 → decode cX0_dropLast pc = .ok (.return_, 1) → AW X 1 0 0 (w_X0_dropLast (cxG X) A_t U_t_items w0) pl pc lo []) (hw : wp_X0_dropLast t_size post) : AW X 1 0 0 (w_X0_dropLast (cxG X) A_t U_t_items t_size) pl 0 [some (.ref A_t)] [] := by
  refine a_aload_n (pc := 0) (i := 0) C dX0_dropLast_0 rfl rfl ?_
  refine a_get (pc := 1) C fl_X0_21 dX0_dropLast_1 0 rfl rfl ?_
  refine a_if_le (pc := 4) (tgt := 17) C dX0_dropLast_4 (by decide) (fun c_4 => ?_) (fun c_4 => ?_)
  · replace hw := hw.1 c_4
    exact hret _ _ _ hw dX0_dropLast_17
  · replace hw := hw.2 c_4
    refine a_aload_n (pc := 7) (i := 0) C dX0_dropLast_7 rfl rfl ?_
    refine a_dup (pc := 8) C dX0_dropLast_8 rfl ?_
    refine a_get (pc := 9) C fl_X0_21 dX0_dropLast_9 0 rfl rfl ?_
    refine a_iconst (pc := 12) C dX0_dropLast_12 kc_1 ?_
    refine a_isub (pc := 13) C dX0_dropLast_13 ?_
    refine a_topi (fun x14 e_x14 => ?_)
    replace hw := hw x14 e_x14
    refine a_putW (pc := 14) (ws' := (w_X0_dropLast (cxG X) A_t U_t_items x14)) C fl_X0_21 pu_0_1 dX0_dropLast_14 0 rfl rfl rfl (Nat.le_of_ble_eq_true rfl) rfl ?_
    exact hret _ _ _ hw dX0_dropLast_17
theorem c_X0_dropLast {l : Launch} {g : GG} {pl : Pool} (A_t : Nat) (U_t_items : Value) {t_size : Int32} {post : Int32 → Prop} (hw : wp_X0_dropLast t_size post) : MV l yX0_dropLast cX0_dropLast 1 (none : Option Jvm.ClassFile.FieldType) (rmL 0) g Fz0 [.ref A_t] (w_X0_dropLast g A_t U_t_items t_size) pl (fun (u : Int32) => post u) (fun u => (w_X0_dropLast g A_t U_t_items u)) (fun _ => pl) 0 0 := by
  refine met_v (own := RX0) rfl rfl (Nat.le_of_ble_eq_true rfl) (fun X hg hl C hini hret => ?_)
  subst hg
  subst hl
  exact m_X0_dropLast C (fun w0 pc lo hp hd => hret w0 pc lo hp hd) hw
abbrev w_X0_holds (g : GG) (A_t A_t_items : Nat) (n_t_items : Nat) (t_size : Int32) (t_items : Nat → Int32) : va_W := [(A_t, ob 0 [.ref A_t_items, .int t_size]), (A_t_items, aI g n_t_items t_items)]
set_option maxRecDepth 20000 in
theorem m_X0_holds_L2 {X : Ctx} (C : Cok X cX0_holds 3 RX0 (rmL 1) Fz0) {pl : Pool} {A_t A_t_items : Nat} {n_t_items : Nat} {t_size : Int32} {t_items : Nat → Int32} {post : Int32 → Prop} (hret : ∀ (r : Int32) (pc : Nat) (lo : List (Option Value)), b01 r → post r → decode cX0_holds pc = .ok (.ireturn, 1) → AW X 3 0 0 (w_X0_holds (cxG X) A_t A_t_items n_t_items t_size t_items) pl pc lo [.int r]) {x_19 : Prop} {x_27 : Prop} (hx_27 : x_27  → AW X 3 0 0 (w_X0_holds (cxG X) A_t A_t_items n_t_items t_size t_items) pl 27 [none, none, none] []) (hx_19 : x_19  → AW X 3 0 0 (w_X0_holds (cxG X) A_t A_t_items n_t_items t_size t_items) pl 19 [none, none, none] []) : ∀ (n2 : Nat) (l1 : Int32) (l2 : Int32) , lp (wp_X0_holds_L2 x_27 x_19 n_t_items t_size t_items post) n2 (l1, l2) → AW X 3 0 0 (w_X0_holds (cxG X) A_t A_t_items n_t_items t_size t_items) pl 2 [some (.ref A_t), some (.int l1), some (.int l2)] [] := by
  intro n2
  induction n2 with
  | zero => exact fun _ _ hw => hw.elim
  | succ n2 hkb =>
    intro l1 l2 hw
    replace hw : wp_X0_holds_L2 x_27 x_19 n_t_items t_size t_items post (lp (wp_X0_holds_L2 x_27 x_19 n_t_items t_size t_items post) n2) (l1, l2) := hw
    generalize lp (wp_X0_holds_L2 x_27 x_19 n_t_items t_size t_items post) n2 = kb at hw hkb
    refine a_iload_n (pc := 2) (i := 2) C dX0_holds_2 rfl rfl ?_
    refine a_aload_n (pc := 3) (i := 0) C dX0_holds_3 rfl rfl ?_
    refine a_get (pc := 4) C fl_X0_21 dX0_holds_4 0 rfl rfl ?_
    refine a_icmp_ge (pc := 7) (tgt := 27) C dX0_holds_7 (by decide) (fun c_7 => ?_) (fun c_7 => ?_)
    · replace hw := hw.1 c_7
      refine a_msk [false, false, false] rfl ?_
      exact hx_27  hw
    · replace hw := hw.2 c_7
      refine a_aload_n (pc := 10) (i := 0) C dX0_holds_10 rfl rfl ?_
      refine a_iload_n (pc := 11) (i := 2) C dX0_holds_11 rfl rfl ?_
      refine a_callVi (pc := 12) (As := [.int l2]) (st := []) (ws' := (fun _ => (w_X0_holds (cxG X) A_t A_t_items n_t_items t_size t_items))) C (c_X0_at A_t A_t_items n_t_items hw) dX0_holds_12 mth_X0_at tml_X0_25 (fun _ _ h => trivial) Fz0_ok (rml (by decide) (by decide)) (Nat.le_of_ble_eq_true rfl) rfl rfl [0, 1] [] [0, 1] rfl rfl rfl rfl rfl rfl (ci := 0) rfl ⟨0, _, rfl⟩ (fun _ => rfl) rfl (fun _ => rfl) (fun r12 u hw => ?_)
      show AW X 3 0 0 (w_X0_holds (cxG X) A_t A_t_items n_t_items t_size t_items) pl 15 [some (.ref A_t), some (.int l1), some (.int l2)] [.int r12]
      refine a_iload_n (pc := 15) (i := 1) C dX0_holds_15 rfl rfl ?_
      refine a_icmp_ne (pc := 16) (tgt := 21) C dX0_holds_16 (by decide) (fun c_16 => ?_) (fun c_16 => ?_)
      · replace hw := hw.1 c_16
        refine a_inc (pc := 21) (i := 2) C (fun y => [some (.ref A_t), some (.int l1), some (.int y)]) dX0_holds_21 rfl kc_1 (by decide) rfl (fun _ => rfl) (fun y21 e_y21 => ?_)
        replace hw := hw y21 e_y21
        refine a_goto (pc := 24) (tgt := 2) C dX0_holds_24 (by decide) ?_
        exact hkb _ _ hw
      · replace hw := hw.2 c_16
        refine a_msk [false, false, false] rfl ?_
        exact hx_19  hw
set_option maxRecDepth 20000 in
theorem m_X0_holds {X : Ctx} (C : Cok X cX0_holds 3 RX0 (rmL 1) Fz0) {pl : Pool} {A_t A_t_items : Nat} {n_t_items : Nat} {t_size : Int32} {t_items : Nat → Int32} {p1 : Int32} {post : Int32 → Prop} (hret : ∀ (r : Int32) (pc : Nat) (lo : List (Option Value)), b01 r → post r → decode cX0_holds pc = .ok (.ireturn, 1) → AW X 3 0 0 (w_X0_holds (cxG X) A_t A_t_items n_t_items t_size t_items) pl pc lo [.int r]) (hw : wp_X0_holds n_t_items t_size t_items p1 post) : AW X 3 0 0 (w_X0_holds (cxG X) A_t A_t_items n_t_items t_size t_items) pl 0 [some (.ref A_t), some (.int p1), none] [] := by
  refine a_iconst (pc := 0) C dX0_holds_0 kc_0 ?_
  refine s_istore_n (pc := 1) (i := 2) (lo' := [some (.ref A_t), some (.int p1), some (.int 0)]) C dX0_holds_1 rfl (by decide) rfl rfl ?_
  obtain ⟨n2, hw⟩ := hw
  refine m_X0_holds_L2 C hret (fun hw => ?_) (fun hw => ?_) n2 _ _ hw
  · refine a_iconst (pc := 27) C dX0_holds_27 kc_0 ?_
    exact hret _ _ _ (Or.inl rfl) hw dX0_holds_28
  · refine a_iconst (pc := 19) C dX0_holds_19 kc_1 ?_
    exact hret _ _ _ (Or.inr rfl) hw dX0_holds_20
theorem c_X0_holds {l : Launch} {g : GG} {pl : Pool} (A_t A_t_items : Nat) (n_t_items : Nat) {t_size : Int32} {t_items : Nat → Int32} {p1 : Int32} {post : Int32 → Prop} (hw : wp_X0_holds n_t_items t_size t_items p1 post) : MI l yX0_holds cX0_holds 3 (some .boolean) (rmL 1) g Fz0 [.ref A_t, .int p1] (w_X0_holds g A_t A_t_items n_t_items t_size t_items) pl (fun r (_ : Unit) => b01 r ∧ post r) (fun _ => (w_X0_holds g A_t A_t_items n_t_items t_size t_items)) (fun _ => pl) 0 0 := by
  refine mi_b01 ?_
  refine met_z (own := RX0) rfl rfl (Nat.le_of_ble_eq_true rfl) (fun X hg hl C hini hret => ?_)
  subst hg
  subst hl
  exact m_X0_holds C (fun r pc lo z hp hd => hret r () pc lo (b01_nar z) hp hd) hw
abbrev w_X0_empty (g : GG) (A_t : Nat) (U_t_items : Value) (t_size : Int32) : va_W := [(A_t, ob 0 [U_t_items, .int t_size])]
set_option maxRecDepth 20000 in
theorem m_X0_empty {X : Ctx} (C : Cok X cX0_empty 1 RX0 (rmL 0) Fz0) {pl : Pool} {A_t : Nat} {U_t_items : Value} {t_size : Int32} {post : Int32 → Prop} (hret : ∀ (w0 : Int32) (pc : Nat) (lo : List (Option Value)), post w0 → decode cX0_empty pc = .ok (.return_, 1) → AW X 1 0 0 (w_X0_empty (cxG X) A_t U_t_items w0) pl pc lo []) (hw : wp_X0_empty t_size post) : AW X 1 0 0 (w_X0_empty (cxG X) A_t U_t_items t_size) pl 0 [some (.ref A_t)] [] := by
  refine a_aload_n (pc := 0) (i := 0) C dX0_empty_0 rfl rfl ?_
  refine a_iconst (pc := 1) C dX0_empty_1 kc_0 ?_
  refine a_putW (pc := 2) (ws' := (w_X0_empty (cxG X) A_t U_t_items 0)) C fl_X0_21 pu_0_1 dX0_empty_2 0 rfl rfl rfl (Nat.le_of_ble_eq_true rfl) rfl ?_
  exact hret _ _ _ hw dX0_empty_5
theorem c_X0_empty {l : Launch} {g : GG} {pl : Pool} (A_t : Nat) (U_t_items : Value) {t_size : Int32} {post : Int32 → Prop} (hw : wp_X0_empty t_size post) : MV l yX0_empty cX0_empty 1 (none : Option Jvm.ClassFile.FieldType) (rmL 0) g Fz0 [.ref A_t] (w_X0_empty g A_t U_t_items t_size) pl (fun (u : Int32) => post u) (fun u => (w_X0_empty g A_t U_t_items u)) (fun _ => pl) 0 0 := by
  refine met_v (own := RX0) rfl rfl (Nat.le_of_ble_eq_true rfl) (fun X hg hl C hini hret => ?_)
  subst hg
  subst hl
  exact m_X0_empty C (fun w0 pc lo hp hd => hret w0 pc lo hp hd) hw
abbrev w_X0_copy (g : GG) (A_t A_a1 A_a1_items A_t_items : Nat) (n_a1_items n_t_items : Nat) (t_size : Int32) (a1_size : Int32) (a1_items : Nat → Int32) (t_items : Nat → Int32) : va_W := [(A_t, ob 0 [.ref A_t_items, .int t_size]), (A_a1, ob 0 [.ref A_a1_items, .int a1_size]), (A_a1_items, aI g n_a1_items a1_items), (A_t_items, aI g n_t_items t_items)]
set_option maxRecDepth 20000 in
theorem m_X0_copy_L7 {X : Ctx} (C : Cok X cX0_copy 3 RX0 (rmL 1) Fz0) {pl : Pool} {A_t A_a1 A_a1_items A_t_items : Nat} {n_a1_items n_t_items : Nat} {a1_size : Int32} {a1_items : Nat → Int32} {post : Int32 → (Nat → Int32) → Prop} (hret : ∀ (w0 : Int32) (w1 : Nat → Int32) (pc : Nat) (lo : List (Option Value)), post w0 w1 → decode cX0_copy pc = .ok (.return_, 1) → AW X 3 0 0 (w_X0_copy (cxG X) A_t A_a1 A_a1_items A_t_items n_a1_items n_t_items w0 a1_size a1_items w1) pl pc lo []) {x_31 : Int32 → (Nat → Int32) → Prop} (hx_31 : ∀ (t_size : Int32) (t_items : Nat → Int32) , x_31 t_size t_items → AW X 3 0 0 (w_X0_copy (cxG X) A_t A_a1 A_a1_items A_t_items n_a1_items n_t_items t_size a1_size a1_items t_items) pl 31 [none, none, none] []) : ∀ (n7 : Nat) (t_size : Int32) (t_items : Nat → Int32) (l2 : Int32) , lp (wp_X0_copy_L7 x_31 n_a1_items n_t_items a1_size a1_items post) n7 (t_size, t_items, l2) → AW X 3 0 0 (w_X0_copy (cxG X) A_t A_a1 A_a1_items A_t_items n_a1_items n_t_items t_size a1_size a1_items t_items) pl 7 [some (.ref A_t), some (.ref A_a1), some (.int l2)] [] := by
  intro n7
  induction n7 with
  | zero => exact fun _ _ _ hw => hw.elim
  | succ n7 hkb =>
    intro t_size t_items l2 hw
    replace hw : wp_X0_copy_L7 x_31 n_a1_items n_t_items a1_size a1_items post (lp (wp_X0_copy_L7 x_31 n_a1_items n_t_items a1_size a1_items post) n7) (t_size, t_items, l2) := hw
    generalize lp (wp_X0_copy_L7 x_31 n_a1_items n_t_items a1_size a1_items post) n7 = kb at hw hkb
    refine a_iload_n (pc := 7) (i := 2) C dX0_copy_7 rfl rfl ?_
    refine a_aload_n (pc := 8) (i := 1) C dX0_copy_8 rfl rfl ?_
    refine a_get (pc := 9) C fl_X0_21 dX0_copy_9 1 rfl rfl ?_
    refine a_icmp_ge (pc := 12) (tgt := 31) C dX0_copy_12 (by decide) (fun c_12 => ?_) (fun c_12 => ?_)
    · replace hw := hw.1 c_12
      refine a_msk [false, false, false] rfl ?_
      exact hx_31 _ _ hw
    · replace hw := hw.2 c_12
      refine a_aload_n (pc := 15) (i := 0) C dX0_copy_15 rfl rfl ?_
      refine a_aload_n (pc := 16) (i := 1) C dX0_copy_16 rfl rfl ?_
      refine a_iload_n (pc := 17) (i := 2) C dX0_copy_17 rfl rfl ?_
      refine a_callVi (pc := 18) (As := [.int l2]) (st := [.ref A_t]) (ws' := (fun _ => (w_X0_copy (cxG X) A_t A_a1 A_a1_items A_t_items n_a1_items n_t_items t_size a1_size a1_items t_items))) C (c_X0_at A_a1 A_a1_items n_a1_items hw) dX0_copy_18 mth_X0_at tml_X0_25 (fun _ _ h => trivial) Fz0_ok (rml (by decide) (by decide)) (Nat.le_of_ble_eq_true rfl) rfl rfl [1, 2] [0, 3] [0, 2, 3, 1] rfl rfl rfl rfl rfl rfl (ci := 0) rfl ⟨0, _, rfl⟩ (fun _ => rfl) rfl (fun _ => rfl) (fun r18 u hw => ?_)
      show AW X 3 0 0 (w_X0_copy (cxG X) A_t A_a1 A_a1_items A_t_items n_a1_items n_t_items t_size a1_size a1_items t_items) pl 21 [some (.ref A_t), some (.ref A_a1), some (.int l2)] [.int r18, .ref A_t]
      refine a_callVi (pc := 21) (As := [.int r18]) (st := []) (ws' := (fun u => (w_X0_copy (cxG X) A_t A_a1 A_a1_items A_t_items n_a1_items n_t_items u.1 a1_size a1_items u.2))) C (c_X0_add A_t A_t_items n_t_items hw) dX0_copy_21 mth_X0_add tml_X0_29 (fun _ _ h => trivial) Fz0_ok (rml (by decide) (by decide)) (Nat.le_of_ble_eq_true rfl) rfl rfl [0, 3] [1, 2] [2, 0, 1, 3] rfl rfl rfl rfl rfl rfl (ci := 0) rfl ⟨0, _, rfl⟩ (fun _ => rfl) rfl (fun _ => rfl) (fun r21 u hw => ?_)
      obtain ⟨z_21, hw⟩ := hw
      obtain ⟨t_size_21, t_items_21⟩ := u
      dsimp only at hw
      show AW X 3 0 0 (w_X0_copy (cxG X) A_t A_a1 A_a1_items A_t_items n_a1_items n_t_items t_size_21 a1_size a1_items t_items_21) pl 24 [some (.ref A_t), some (.ref A_a1), some (.int l2)] [.int r21]
      refine a_pop (pc := 24) C dX0_copy_24 rfl ?_
      refine a_inc (pc := 25) (i := 2) C (fun y => [some (.ref A_t), some (.ref A_a1), some (.int y)]) dX0_copy_25 rfl kc_1 (by decide) rfl (fun _ => rfl) (fun y25 e_y25 => ?_)
      replace hw := hw y25 e_y25
      refine a_goto (pc := 28) (tgt := 7) C dX0_copy_28 (by decide) ?_
      exact hkb _ _ _ hw
set_option maxRecDepth 20000 in
theorem m_X0_copy {X : Ctx} (C : Cok X cX0_copy 3 RX0 (rmL 1) Fz0) {pl : Pool} {A_t A_a1 A_a1_items A_t_items : Nat} {n_a1_items n_t_items : Nat} {a1_size : Int32} {a1_items : Nat → Int32} {t_size : Int32} {t_items : Nat → Int32} {post : Int32 → (Nat → Int32) → Prop} (hret : ∀ (w0 : Int32) (w1 : Nat → Int32) (pc : Nat) (lo : List (Option Value)), post w0 w1 → decode cX0_copy pc = .ok (.return_, 1) → AW X 3 0 0 (w_X0_copy (cxG X) A_t A_a1 A_a1_items A_t_items n_a1_items n_t_items w0 a1_size a1_items w1) pl pc lo []) (hw : wp_X0_copy n_a1_items n_t_items a1_size a1_items t_size t_items post) : AW X 3 0 0 (w_X0_copy (cxG X) A_t A_a1 A_a1_items A_t_items n_a1_items n_t_items t_size a1_size a1_items t_items) pl 0 [some (.ref A_t), some (.ref A_a1), none] [] := by
  refine a_aload_n (pc := 0) (i := 0) C dX0_copy_0 rfl rfl ?_
  refine a_iconst (pc := 1) C dX0_copy_1 kc_0 ?_
  refine a_putW (pc := 2) (ws' := (w_X0_copy (cxG X) A_t A_a1 A_a1_items A_t_items n_a1_items n_t_items 0 a1_size a1_items t_items)) C fl_X0_21 pu_0_1 dX0_copy_2 0 rfl rfl rfl (Nat.le_of_ble_eq_true rfl) rfl ?_
  refine a_iconst (pc := 5) C dX0_copy_5 kc_0 ?_
  refine s_istore_n (pc := 6) (i := 2) (lo' := [some (.ref A_t), some (.ref A_a1), some (.int 0)]) C dX0_copy_6 rfl (by decide) rfl rfl ?_
  obtain ⟨n7, hw⟩ := hw
  refine m_X0_copy_L7 C hret (fun t_size t_items hw => ?_) n7 _ _ _ hw
  exact hret _ _ _ _ hw dX0_copy_31
theorem c_X0_copy {l : Launch} {g : GG} {pl : Pool} (A_t A_a1 A_a1_items A_t_items : Nat) (n_a1_items n_t_items : Nat) {a1_size : Int32} {a1_items : Nat → Int32} {t_size : Int32} {t_items : Nat → Int32} {post : Int32 → (Nat → Int32) → Prop} (hw : wp_X0_copy n_a1_items n_t_items a1_size a1_items t_size t_items post) : MV l yX0_copy cX0_copy 3 (none : Option Jvm.ClassFile.FieldType) (rmL 1) g Fz0 [.ref A_t, .ref A_a1] (w_X0_copy g A_t A_a1 A_a1_items A_t_items n_a1_items n_t_items t_size a1_size a1_items t_items) pl (fun (u : Int32 × (Nat → Int32)) => post u.1 u.2) (fun u => (w_X0_copy g A_t A_a1 A_a1_items A_t_items n_a1_items n_t_items u.1 a1_size a1_items u.2)) (fun _ => pl) 0 0 := by
  refine met_v (own := RX0) rfl rfl (Nat.le_of_ble_eq_true rfl) (fun X hg hl C hini hret => ?_)
  subst hg
  subst hl
  exact m_X0_copy C (fun w0 w1 pc lo hp hd => hret (w0, w1) pc lo hp hd) hw
