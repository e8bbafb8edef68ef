abbrev w_X5_holds (g : GG) (A_t A_t_words : Nat) (n_t_words : Nat) (t_words : Nat → Int64) : va_W := [(A_t, ob 5 [.ref A_t_words]), (A_t_words, aJ g n_t_words t_words)]
set_option maxRecDepth 20000 in
theorem m_X5_holds {X : Ctx} (C : Cok X cX5_holds 2 RX5 (rmL 0) Fz0) {pl : Pool} {A_t A_t_words : Nat} {n_t_words : Nat} {t_words : Nat → Int64} {p1 : Int32} {post : Int32 → Prop} (hret : ∀ (r : Int32) (pc : Nat) (lo : List (Option Value)), b01 r → post r → decode cX5_holds pc = .ok (.ireturn, 1) → AW X 2 0 0 (w_X5_holds (cxG X) A_t A_t_words n_t_words t_words) pl pc lo [.int r]) (hw : wp_X5_holds n_t_words t_words p1 post) : AW X 2 0 0 (w_X5_holds (cxG X) A_t A_t_words n_t_words t_words) pl 0 [some (.ref A_t), some (.int p1)] [] := by
  refine a_iload_n (pc := 0) (i := 1) C dX5_holds_0 rfl rfl ?_
  refine a_if_lt (pc := 1) (tgt := 21) C dX5_holds_1 (by decide) (fun c_1 => ?_) (fun c_1 => ?_)
  · replace hw := hw.1 c_1
    refine a_iconst (pc := 21) C dX5_holds_21 kc_0 ?_
    exact hret _ _ _ (Or.inl rfl) hw dX5_holds_22
  · replace hw := hw.2 c_1
    refine a_iconst (pc := 4) C dX5_holds_4 kc_2 ?_
    refine a_iload_n (pc := 5) (i := 1) C dX5_holds_5 rfl rfl ?_
    refine a_imul (pc := 6) C dX5_holds_6 ?_
    refine a_iconst (pc := 7) C dX5_holds_7 kc_1 ?_
    refine a_iadd (pc := 8) C dX5_holds_8 ?_
    refine a_aload_n (pc := 9) (i := 0) C dX5_holds_9 rfl rfl ?_
    refine a_get (pc := 10) C fl_X5_15 dX5_holds_10 0 rfl rfl ?_
    refine a_alenJ (pc := 13) C dX5_holds_13 1 rfl ?_
    refine a_icmp_ge (pc := 14) (tgt := 21) C dX5_holds_14 (by decide) (fun c_14 => ?_) (fun c_14 => ?_)
    · replace hw := hw.1 c_14
      refine a_iconst (pc := 21) C dX5_holds_21 kc_0 ?_
      exact hret _ _ _ (Or.inl rfl) hw dX5_holds_22
    · replace hw := hw.2 c_14
      refine a_iconst (pc := 17) C dX5_holds_17 kc_1 ?_
      refine a_goto (pc := 18) (tgt := 22) C dX5_holds_18 (by decide) ?_
      exact hret _ _ _ (Or.inr rfl) hw dX5_holds_22
theorem c_X5_holds {l : Launch} {g : GG} {pl : Pool} (A_t A_t_words : Nat) (n_t_words : Nat) {t_words : Nat → Int64} {p1 : Int32} {post : Int32 → Prop} (hw : wp_X5_holds n_t_words t_words p1 post) : MI l yX5_holds cX5_holds 2 (some .boolean) (rmL 0) g Fz0 [.ref A_t, .int p1] (w_X5_holds g A_t A_t_words n_t_words t_words) pl (fun r (_ : Unit) => b01 r ∧ post r) (fun _ => (w_X5_holds g A_t A_t_words n_t_words t_words)) (fun _ => pl) 0 0 := by
  refine mi_b01 ?_
  refine met_z (own := RX5) rfl rfl (Nat.le_of_ble_eq_true rfl) (fun X hg hl C hini hret => ?_)
  subst hg
  subst hl
  exact m_X5_holds C (fun r pc lo z hp hd => hret r () pc lo (b01_nar z) hp hd) hw
abbrev w_X5_has (g : GG) (A_t A_t_words : Nat) (n_t_words : Nat) (t_words : Nat → Int64) : va_W := [(A_t, ob 5 [.ref A_t_words]), (A_t_words, aJ g n_t_words t_words)]
set_option maxRecDepth 20000 in
theorem m_X5_has {X : Ctx} (C : Cok X cX5_has 4 RX5 (rmL 0) Fz0) {pl : Pool} {A_t A_t_words : Nat} {n_t_words : Nat} {t_words : Nat → Int64} {p1 : Int32} {p2 : Int32} {post : Int32 → Prop} (hret : ∀ (r : Int32) (pc : Nat) (lo : List (Option Value)), b01 r → post r → decode cX5_has pc = .ok (.ireturn, 1) → AW X 4 0 0 (w_X5_has (cxG X) A_t A_t_words n_t_words t_words) pl pc lo [.int r]) (hw : wp_X5_has n_t_words t_words p1 p2 post) : AW X 4 0 0 (w_X5_has (cxG X) A_t A_t_words n_t_words t_words) pl 0 [some (.ref A_t), some (.int p1), some (.int p2), none] [] := by
  refine a_iconst (pc := 0) C dX5_has_0 kc_2 ?_
  refine a_iload_n (pc := 1) (i := 1) C dX5_has_1 rfl rfl ?_
  refine a_imul (pc := 2) C dX5_has_2 ?_
  refine a_iload_n (pc := 3) (i := 2) C dX5_has_3 rfl rfl ?_
  refine a_bipush (pc := 4) C dX5_has_4 kb_6 ?_
  refine a_ishr (pc := 6) C dX5_has_6 ?_
  refine a_iadd (pc := 7) C dX5_has_7 ?_
  refine a_topi (fun x8 e_x8 => ?_)
  replace hw := hw x8 e_x8
  refine s_istore_n (pc := 8) (i := 3) (lo' := [some (.ref A_t), some (.int p1), some (.int p2), some (.int x8)]) C dX5_has_8 rfl (by decide) rfl rfl ?_
  refine a_iload_n (pc := 9) (i := 2) C dX5_has_9 rfl rfl ?_
  refine a_if_lt (pc := 10) (tgt := 54) C dX5_has_10 (by decide) (fun c_10 => ?_) (fun c_10 => ?_)
  · replace hw := hw.1 c_10
    refine a_iconst (pc := 54) C dX5_has_54 kc_0 ?_
    exact hret _ _ _ (Or.inl rfl) hw dX5_has_55
  · replace hw := hw.2 c_10
    refine a_iload_n (pc := 13) (i := 2) C dX5_has_13 rfl rfl ?_
    refine a_bipush (pc := 14) C dX5_has_14 kb_100 ?_
    refine a_icmp_ge (pc := 16) (tgt := 54) C dX5_has_16 (by decide) (fun c_16 => ?_) (fun c_16 => ?_)
    · replace hw := hw.1 c_16
      refine a_iconst (pc := 54) C dX5_has_54 kc_0 ?_
      exact hret _ _ _ (Or.inl rfl) hw dX5_has_55
    · replace hw := hw.2 c_16
      refine a_iload_n (pc := 19) (i := 3) C dX5_has_19 rfl rfl ?_
      refine a_if_lt (pc := 20) (tgt := 54) C dX5_has_20 (by decide) (fun c_20 => ?_) (fun c_20 => ?_)
      · replace hw := hw.1 c_20
        refine a_iconst (pc := 54) C dX5_has_54 kc_0 ?_
        exact hret _ _ _ (Or.inl rfl) hw dX5_has_55
      · replace hw := hw.2 c_20
        refine a_iload_n (pc := 23) (i := 3) C dX5_has_23 rfl rfl ?_
        refine a_aload_n (pc := 24) (i := 0) C dX5_has_24 rfl rfl ?_
        refine a_get (pc := 25) C fl_X5_15 dX5_has_25 0 rfl rfl ?_
        refine a_alenJ (pc := 28) C dX5_has_28 1 rfl ?_
        refine a_icmp_ge (pc := 29) (tgt := 54) C dX5_has_29 (by decide) (fun c_29 => ?_) (fun c_29 => ?_)
        · replace hw := hw.1 c_29
          refine a_iconst (pc := 54) C dX5_has_54 kc_0 ?_
          exact hret _ _ _ (Or.inl rfl) hw dX5_has_55
        · replace hw := hw.2 c_29
          refine a_aload_n (pc := 32) (i := 0) C dX5_has_32 rfl rfl ?_
          refine a_get (pc := 33) C fl_X5_15 dX5_has_33 0 rfl rfl ?_
          refine a_iload_n (pc := 36) (i := 3) C dX5_has_36 rfl rfl ?_
          obtain ⟨i_37, hw⟩ := hw
          refine a_lald (pc := 37) C dX5_has_37 1 rfl i_37 ?_
          refine a_iload_n (pc := 38) (i := 2) C dX5_has_38 rfl rfl ?_
          refine a_bipush (pc := 39) C dX5_has_39 kb_63 ?_
          refine a_iand (pc := 41) C dX5_has_41 ?_
          refine a_lushr (pc := 42) C dX5_has_42 ?_
          refine a_lconst (pc := 43) (v := 1) C dX5_has_43 rfl ?_
          refine a_land (pc := 44) C dX5_has_44 ?_
          refine a_lconst (pc := 45) (v := 0) C dX5_has_45 rfl ?_
          refine a_lcmp (pc := 46) C dX5_has_46 ?_
          refine a_if_eq (pc := 47) (tgt := 54) C dX5_has_47 (by decide) (fun c_47 => ?_) (fun c_47 => ?_)
          · replace hw := hw.1 c_47
            refine a_iconst (pc := 54) C dX5_has_54 kc_0 ?_
            exact hret _ _ _ (Or.inl rfl) hw dX5_has_55
          · replace hw := hw.2 c_47
            refine a_iconst (pc := 50) C dX5_has_50 kc_1 ?_
            refine a_goto (pc := 51) (tgt := 55) C dX5_has_51 (by decide) ?_
            exact hret _ _ _ (Or.inr rfl) hw dX5_has_55
theorem c_X5_has {l : Launch} {g : GG} {pl : Pool} (A_t A_t_words : Nat) (n_t_words : Nat) {t_words : Nat → Int64} {p1 : Int32} {p2 : Int32} {post : Int32 → Prop} (hw : wp_X5_has n_t_words t_words p1 p2 post) : MI l yX5_has cX5_has 4 (some .boolean) (rmL 0) g Fz0 [.ref A_t, .int p1, .int p2] (w_X5_has g A_t A_t_words n_t_words t_words) pl (fun r (_ : Unit) => b01 r ∧ post r) (fun _ => (w_X5_has g A_t A_t_words n_t_words t_words)) (fun _ => pl) 0 0 := by
  refine mi_b01 ?_
  refine met_z (own := RX5) rfl rfl (Nat.le_of_ble_eq_true rfl) (fun X hg hl C hini hret => ?_)
  subst hg
  subst hl
  exact m_X5_has C (fun r pc lo z hp hd => hret r () pc lo (b01_nar z) hp hd) hw
abbrev w_X5_word (g : GG) (A_t A_t_words : Nat) (n_t_words : Nat) (t_words : Nat → Int64) : va_W := [(A_t, ob 5 [.ref A_t_words]), (A_t_words, aJ g n_t_words t_words)]
set_option maxRecDepth 20000 in
theorem m_X5_word {X : Ctx} (C : Cok X cX5_word 3 RX5 (rmL 1) Fz0) {pl : Pool} {A_t A_t_words : Nat} {n_t_words : Nat} {t_words : Nat → Int64} {p1 : Int32} {p2 : Int32} {post : Int64 → Prop} (hret : ∀ (r : Int64) (pc : Nat) (lo : List (Option Value)), post r → decode cX5_word pc = .ok (.lreturn, 1) → AW X 3 0 0 (w_X5_word (cxG X) A_t A_t_words n_t_words t_words) pl pc lo [.long r]) (hw : wp_X5_word n_t_words t_words p1 p2 post) : AW X 3 0 0 (w_X5_word (cxG X) A_t A_t_words n_t_words t_words) pl 0 [some (.ref A_t), some (.int p1), some (.int p2)] [] := by
  replace hw : wp_X5_holds n_t_words t_words p1 (fun r2 => (r2 = 0 → (post 0)) ∧ (¬ r2 = 0 → ((p2 < 0 → (post 0)) ∧ (¬ p2 < 0 → ((2 ≤ p2 → (post 0)) ∧ (¬ 2 ≤ p2 → (∀ x26 : Int32, x26 = ((2 * p1) + p2) → (vp_in x26 n_t_words ∧ (post (t_words (Int32.toNatClampNeg x26))))))))))) := hw
  refine a_aload_n (pc := 0) (i := 0) C dX5_word_0 rfl rfl ?_
  refine a_iload_n (pc := 1) (i := 1) C dX5_word_1 rfl rfl ?_
  refine a_callVi (pc := 2) (As := [.int p1]) (st := []) (ws' := (fun _ => (w_X5_word (cxG X) A_t A_t_words n_t_words t_words))) C (c_X5_holds A_t A_t_words n_t_words hw) dX5_word_2 mth_X5_holds tml_X5_21 (fun _ _ h => trivial) Fz0_ok (rml (by decide) (by decide)) (Nat.le_of_ble_eq_true rfl) rfl rfl [0, 1] [] [0, 1] rfl rfl rfl rfl rfl rfl (ci := 5) rfl ⟨0, _, rfl⟩ (fun _ => rfl) rfl (fun _ => rfl) (fun r2 u hw => ?_)
  obtain ⟨z_2, hw⟩ := hw
  show AW X 3 0 0 (w_X5_word (cxG X) A_t A_t_words n_t_words t_words) pl 5 [some (.ref A_t), some (.int p1), some (.int p2)] [.int r2]
  refine a_if_eq (pc := 5) (tgt := 30) C dX5_word_5 (by decide) (fun c_5 => ?_) (fun c_5 => ?_)
  · replace hw := hw.1 c_5
    refine a_lconst (pc := 30) (v := 0) C dX5_word_30 rfl ?_
    exact hret _ _ _ hw dX5_word_31
  · replace hw := hw.2 c_5
    refine a_iload_n (pc := 8) (i := 2) C dX5_word_8 rfl rfl ?_
    refine a_if_lt (pc := 9) (tgt := 30) C dX5_word_9 (by decide) (fun c_9 => ?_) (fun c_9 => ?_)
    · replace hw := hw.1 c_9
      refine a_lconst (pc := 30) (v := 0) C dX5_word_30 rfl ?_
      exact hret _ _ _ hw dX5_word_31
    · replace hw := hw.2 c_9
      refine a_iload_n (pc := 12) (i := 2) C dX5_word_12 rfl rfl ?_
      refine a_iconst (pc := 13) C dX5_word_13 kc_2 ?_
      refine a_icmp_ge (pc := 14) (tgt := 30) C dX5_word_14 (by decide) (fun c_14 => ?_) (fun c_14 => ?_)
      · replace hw := hw.1 c_14
        refine a_lconst (pc := 30) (v := 0) C dX5_word_30 rfl ?_
        exact hret _ _ _ hw dX5_word_31
      · replace hw := hw.2 c_14
        refine a_aload_n (pc := 17) (i := 0) C dX5_word_17 rfl rfl ?_
        refine a_get (pc := 18) C fl_X5_15 dX5_word_18 0 rfl rfl ?_
        refine a_iconst (pc := 21) C dX5_word_21 kc_2 ?_
        refine a_iload_n (pc := 22) (i := 1) C dX5_word_22 rfl rfl ?_
        refine a_imul (pc := 23) C dX5_word_23 ?_
        refine a_iload_n (pc := 24) (i := 2) C dX5_word_24 rfl rfl ?_
        refine a_iadd (pc := 25) C dX5_word_25 ?_
        refine a_topi (fun x26 e_x26 => ?_)
        replace hw := hw x26 e_x26
        obtain ⟨i_26, hw⟩ := hw
        refine a_lald (pc := 26) C dX5_word_26 1 rfl i_26 ?_
        refine a_goto (pc := 27) (tgt := 31) C dX5_word_27 (by decide) ?_
        exact hret _ _ _ hw dX5_word_31
theorem c_X5_word {l : Launch} {g : GG} {pl : Pool} (A_t A_t_words : Nat) (n_t_words : Nat) {t_words : Nat → Int64} {p1 : Int32} {p2 : Int32} {post : Int64 → Prop} (hw : wp_X5_word n_t_words t_words p1 p2 post) : ML l yX5_word cX5_word 3 (some .long) (rmL 1) g Fz0 [.ref A_t, .int p1, .int p2] (w_X5_word g A_t A_t_words n_t_words t_words) pl (fun r (_ : Unit) => post r) (fun _ => (w_X5_word g A_t A_t_words n_t_words t_words)) (fun _ => pl) 0 0 := by
  refine met_l (own := RX5) rfl rfl (Nat.le_of_ble_eq_true rfl) (fun X hg hl C hini hret => ?_)
  subst hg
  subst hl
  exact m_X5_word C (fun r pc lo hp hd => hret r () pc lo hp hd) hw
abbrev w_X5_put (g : GG) (A_t A_t_words : Nat) (n_t_words : Nat) (t_words : Nat → Int64) : va_W := [(A_t, ob 5 [.ref A_t_words]), (A_t_words, aJ g n_t_words t_words)]
set_option maxRecDepth 20000 in
theorem m_X5_put {X : Ctx} (C : Cok X cX5_put 4 RX5 (rmL 0) Fz0) {pl : Pool} {A_t A_t_words : Nat} {n_t_words : Nat} {t_words : Nat → Int64} {p1 : Int32} {p2 : Int32} {post : (Nat → Int64) → Prop} (hret : ∀ (w0 : Nat → Int64) (pc : Nat) (lo : List (Option Value)), post w0 → decode cX5_put pc = .ok (.return_, 1) → AW X 4 0 0 (w_X5_put (cxG X) A_t A_t_words n_t_words w0) pl pc lo []) (hw : wp_X5_put n_t_words t_words p1 p2 post) : AW X 4 0 0 (w_X5_put (cxG X) A_t A_t_words n_t_words t_words) pl 0 [some (.ref A_t), some (.int p1), some (.int p2), none] [] := by
  refine a_iconst (pc := 0) C dX5_put_0 kc_2 ?_
  refine a_iload_n (pc := 1) (i := 1) C dX5_put_1 rfl rfl ?_
  refine a_imul (pc := 2) C dX5_put_2 ?_
  refine a_iload_n (pc := 3) (i := 2) C dX5_put_3 rfl rfl ?_
  refine a_bipush (pc := 4) C dX5_put_4 kb_6 ?_
  refine a_ishr (pc := 6) C dX5_put_6 ?_
  refine a_iadd (pc := 7) C dX5_put_7 ?_
  refine a_topi (fun x8 e_x8 => ?_)
  replace hw := hw x8 e_x8
  refine s_istore_n (pc := 8) (i := 3) (lo' := [some (.ref A_t), some (.int p1), some (.int p2), some (.int x8)]) C dX5_put_8 rfl (by decide) rfl rfl ?_
  refine a_iload_n (pc := 9) (i := 2) C dX5_put_9 rfl rfl ?_
  refine a_if_lt (pc := 10) (tgt := 47) C dX5_put_10 (by decide) (fun c_10 => ?_) (fun c_10 => ?_)
  · replace hw := hw.1 c_10
    exact hret _ _ _ hw dX5_put_47
  · replace hw := hw.2 c_10
    refine a_iload_n (pc := 13) (i := 2) C dX5_put_13 rfl rfl ?_
    refine a_bipush (pc := 14) C dX5_put_14 kb_100 ?_
    refine a_icmp_ge (pc := 16) (tgt := 47) C dX5_put_16 (by decide) (fun c_16 => ?_) (fun c_16 => ?_)
    · replace hw := hw.1 c_16
      exact hret _ _ _ hw dX5_put_47
    · replace hw := hw.2 c_16
      refine a_iload_n (pc := 19) (i := 3) C dX5_put_19 rfl rfl ?_
      refine a_if_lt (pc := 20) (tgt := 47) C dX5_put_20 (by decide) (fun c_20 => ?_) (fun c_20 => ?_)
      · replace hw := hw.1 c_20
        exact hret _ _ _ hw dX5_put_47
      · replace hw := hw.2 c_20
        refine a_iload_n (pc := 23) (i := 3) C dX5_put_23 rfl rfl ?_
        refine a_aload_n (pc := 24) (i := 0) C dX5_put_24 rfl rfl ?_
        refine a_get (pc := 25) C fl_X5_15 dX5_put_25 0 rfl rfl ?_
        refine a_alenJ (pc := 28) C dX5_put_28 1 rfl ?_
        refine a_icmp_ge (pc := 29) (tgt := 47) C dX5_put_29 (by decide) (fun c_29 => ?_) (fun c_29 => ?_)
        · replace hw := hw.1 c_29
          exact hret _ _ _ hw dX5_put_47
        · replace hw := hw.2 c_29
          refine a_aload_n (pc := 32) (i := 0) C dX5_put_32 rfl rfl ?_
          refine a_get (pc := 33) C fl_X5_15 dX5_put_33 0 rfl rfl ?_
          refine a_iload_n (pc := 36) (i := 3) C dX5_put_36 rfl rfl ?_
          refine a_dup2_11 (pc := 37) C dX5_put_37 rfl rfl ?_
          obtain ⟨i_38, hw⟩ := hw
          refine a_lald (pc := 38) C dX5_put_38 1 rfl i_38 ?_
          refine a_lconst (pc := 39) (v := 1) C dX5_put_39 rfl ?_
          refine a_iload_n (pc := 40) (i := 2) C dX5_put_40 rfl rfl ?_
          refine a_bipush (pc := 41) C dX5_put_41 kb_63 ?_
          refine a_iand (pc := 43) C dX5_put_43 ?_
          refine a_lshl (pc := 44) C dX5_put_44 ?_
          refine a_lor (pc := 45) C dX5_put_45 ?_
          refine a_topl (fun x46 e_x46 => ?_)
          replace hw := hw x46 e_x46
          obtain ⟨i_46, hw⟩ := hw
          refine a_lastW (pc := 46) C (fun h => (w_X5_put (cxG X) A_t A_t_words n_t_words h)) dX5_put_46 1 rfl i_46 (fun _ => rfl) (fun t_words_46 e_t_words_46 => ?_)
          replace hw := hw t_words_46 e_t_words_46
          exact hret _ _ _ hw dX5_put_47
theorem c_X5_put {l : Launch} {g : GG} {pl : Pool} (A_t A_t_words : Nat) (n_t_words : Nat) {t_words : Nat → Int64} {p1 : Int32} {p2 : Int32} {post : (Nat → Int64) → Prop} (hw : wp_X5_put n_t_words t_words p1 p2 post) : MV l yX5_put cX5_put 4 (none : Option Jvm.ClassFile.FieldType) (rmL 0) g Fz0 [.ref A_t, .int p1, .int p2] (w_X5_put g A_t A_t_words n_t_words t_words) pl (fun (u : (Nat → Int64)) => post u) (fun u => (w_X5_put g A_t A_t_words n_t_words u)) (fun _ => pl) 0 0 := by
  refine met_v (own := RX5) rfl rfl (Nat.le_of_ble_eq_true rfl) (fun X hg hl C hini hret => ?_)
  subst hg
  subst hl
  exact m_X5_put C (fun w0 pc lo hp hd => hret w0 pc lo hp hd) hw
abbrev w_X5_lowest (g : GG) : va_W := []
set_option maxRecDepth 20000 in
theorem m_X5_lowest {X : Ctx} (C : Cok X cX5_lowest 2 RX5 (rmL 1) Fz0) {pl : Pool} {p0 : Int64} {post : Int32 → Prop} (hret : ∀ (r : Int32) (pc : Nat) (lo : List (Option Value)), post r → decode cX5_lowest pc = .ok (.ireturn, 1) → AW X 2 0 0 (w_X5_lowest (cxG X)) pl pc lo [.int r]) (hw : wp_X5_lowest p0 post) : AW X 2 0 0 (w_X5_lowest (cxG X)) pl 0 [some (.long p0), none] [] := by
  replace hw : wp_J13_bitCount_95d88 ((p0 &&& (-p0)) - 1) (fun r6 => post r6) := hw
  refine a_lload_n (pc := 0) (i := 0) C dX5_lowest_0 rfl rfl ?_
  refine a_lload_n (pc := 1) (i := 0) C dX5_lowest_1 rfl rfl ?_
  refine a_lneg (pc := 2) C dX5_lowest_2 ?_
  refine a_land (pc := 3) C dX5_lowest_3 ?_
  refine a_lconst (pc := 4) (v := 1) C dX5_lowest_4 rfl ?_
  refine a_lsub (pc := 5) C dX5_lowest_5 ?_
  refine a_callSi (pc := 6) (As := [.long ((p0 &&& (-p0)) - 1)]) (st := []) (ws' := (fun _ => (w_X5_lowest (cxG X)))) C (c_J13_bitCount_95d88 hw) dX5_lowest_6 mth_J13_bitCount_95d88 tml_X5_25 (fun _ _ h => trivial) Fz0_ok (rml (by decide) (by decide)) (Nat.le_of_ble_eq_true rfl) rfl rfl [] [] [] rfl rfl rfl rfl rfl rfl (fun _ => rfl) rfl (fun _ => rfl) (fun r6 u hw => ?_)
  show AW X 2 0 0 (w_X5_lowest (cxG X)) pl 9 [some (.long p0), none] [.int r6]
  exact hret _ _ _ hw dX5_lowest_9
theorem c_X5_lowest {l : Launch} {g : GG} {pl : Pool} {p0 : Int64} {post : Int32 → Prop} (hw : wp_X5_lowest p0 post) : MI l yX5_lowest cX5_lowest 2 (some .int) (rmL 1) g Fz0 [.long p0] (w_X5_lowest g) pl (fun r (_ : Unit) => post r) (fun _ => (w_X5_lowest g)) (fun _ => pl) 0 0 := by
  refine met_i (own := RX5) rfl rfl (Nat.le_of_ble_eq_true rfl) (fun X hg hl C hini hret => ?_)
  subst hg
  subst hl
  exact m_X5_lowest C (fun r pc lo hp hd => hret r () pc lo hp hd) hw
abbrev w_X5_joinHalf (g : GG) (A_t A_t_words : Nat) (n_t_words : Nat) (t_words : Nat → Int64) : va_W := [(A_t, ob 5 [.ref A_t_words]), (A_t_words, aJ g n_t_words t_words)]
set_option maxRecDepth 20000 in
theorem m_X5_joinHalf {X : Ctx} (C : Cok X cX5_joinHalf 5 RX5 (rmL 1) Fz0) {pl : Pool} {A_t A_t_words : Nat} {n_t_words : Nat} {t_words : Nat → Int64} {p1 : Int32} {p2 : Int32} {p3 : Int64} {post : (Nat → Int64) → Prop} (hret : ∀ (w0 : Nat → Int64) (pc : Nat) (lo : List (Option Value)), post w0 → decode cX5_joinHalf pc = .ok (.return_, 1) → AW X 5 0 0 (w_X5_joinHalf (cxG X) A_t A_t_words n_t_words w0) pl pc lo []) (hw : wp_X5_joinHalf n_t_words t_words p1 p2 p3 post) : AW X 5 0 0 (w_X5_joinHalf (cxG X) A_t A_t_words n_t_words t_words) pl 0 [some (.ref A_t), some (.int p1), some (.int p2), some (.long p3), none] [] := by
  replace hw : wp_X5_holds n_t_words t_words p1 (fun r2 => (r2 = 0 → (post t_words)) ∧ (¬ r2 = 0 → ((p2 < 0 → (post t_words)) ∧ (¬ p2 < 0 → ((2 ≤ p2 → (post t_words)) ∧ (¬ 2 ≤ p2 → (∀ x27 : Int32, x27 = ((2 * p1) + p2) → (vp_in x27 n_t_words ∧ (∀ x30 : Int64, x30 = ((t_words (Int32.toNatClampNeg x27)) ||| p3) → (∀ x30_1 : Int32, x30_1 = ((2 * p1) + p2) → (vp_in x30_1 n_t_words ∧ (∀ t_words_30 : Nat → Int64, t_words_30 = vp_updL t_words (Int32.toNatClampNeg x30_1) x30 → (post t_words_30))))))))))))) := hw
  refine a_aload_n (pc := 0) (i := 0) C dX5_joinHalf_0 rfl rfl ?_
  refine a_iload_n (pc := 1) (i := 1) C dX5_joinHalf_1 rfl rfl ?_
  refine a_callVi (pc := 2) (As := [.int p1]) (st := []) (ws' := (fun _ => (w_X5_joinHalf (cxG X) A_t A_t_words n_t_words t_words))) C (c_X5_holds A_t A_t_words n_t_words hw) dX5_joinHalf_2 mth_X5_holds tml_X5_21 (fun _ _ h => trivial) Fz0_ok (rml (by decide) (by decide)) (Nat.le_of_ble_eq_true rfl) rfl rfl [0, 1] [] [0, 1] rfl rfl rfl rfl rfl rfl (ci := 5) rfl ⟨0, _, rfl⟩ (fun _ => rfl) rfl (fun _ => rfl) (fun r2 u hw => ?_)
  obtain ⟨z_2, hw⟩ := hw
  show AW X 5 0 0 (w_X5_joinHalf (cxG X) A_t A_t_words n_t_words t_words) pl 5 [some (.ref A_t), some (.int p1), some (.int p2), some (.long p3), none] [.int r2]
  refine a_if_eq (pc := 5) (tgt := 31) C dX5_joinHalf_5 (by decide) (fun c_5 => ?_) (fun c_5 => ?_)
  · replace hw := hw.1 c_5
    exact hret _ _ _ hw dX5_joinHalf_31
  · replace hw := hw.2 c_5
    refine a_iload_n (pc := 8) (i := 2) C dX5_joinHalf_8 rfl rfl ?_
    refine a_if_lt (pc := 9) (tgt := 31) C dX5_joinHalf_9 (by decide) (fun c_9 => ?_) (fun c_9 => ?_)
    · replace hw := hw.1 c_9
      exact hret _ _ _ hw dX5_joinHalf_31
    · replace hw := hw.2 c_9
      refine a_iload_n (pc := 12) (i := 2) C dX5_joinHalf_12 rfl rfl ?_
      refine a_iconst (pc := 13) C dX5_joinHalf_13 kc_2 ?_
      refine a_icmp_ge (pc := 14) (tgt := 31) C dX5_joinHalf_14 (by decide) (fun c_14 => ?_) (fun c_14 => ?_)
      · replace hw := hw.1 c_14
        exact hret _ _ _ hw dX5_joinHalf_31
      · replace hw := hw.2 c_14
        refine a_aload_n (pc := 17) (i := 0) C dX5_joinHalf_17 rfl rfl ?_
        refine a_get (pc := 18) C fl_X5_15 dX5_joinHalf_18 0 rfl rfl ?_
        refine a_iconst (pc := 21) C dX5_joinHalf_21 kc_2 ?_
        refine a_iload_n (pc := 22) (i := 1) C dX5_joinHalf_22 rfl rfl ?_
        refine a_imul (pc := 23) C dX5_joinHalf_23 ?_
        refine a_iload_n (pc := 24) (i := 2) C dX5_joinHalf_24 rfl rfl ?_
        refine a_iadd (pc := 25) C dX5_joinHalf_25 ?_
        refine a_dup2_11 (pc := 26) C dX5_joinHalf_26 rfl rfl ?_
        refine a_topi (fun x27 e_x27 => ?_)
        replace hw := hw x27 e_x27
        obtain ⟨i_27, hw⟩ := hw
        refine a_lald (pc := 27) C dX5_joinHalf_27 1 rfl i_27 ?_
        refine a_lload_n (pc := 28) (i := 3) C dX5_joinHalf_28 rfl rfl ?_
        refine a_lor (pc := 29) C dX5_joinHalf_29 ?_
        refine a_topl (fun x30 e_x30 => ?_)
        replace hw := hw x30 e_x30
        refine a_top2i (fun x30_1 e_x30_1 => ?_)
        replace hw := hw x30_1 e_x30_1
        obtain ⟨i_30, hw⟩ := hw
        refine a_lastW (pc := 30) C (fun h => (w_X5_joinHalf (cxG X) A_t A_t_words n_t_words h)) dX5_joinHalf_30 1 rfl i_30 (fun _ => rfl) (fun t_words_30 e_t_words_30 => ?_)
        replace hw := hw t_words_30 e_t_words_30
        exact hret _ _ _ hw dX5_joinHalf_31
theorem c_X5_joinHalf {l : Launch} {g : GG} {pl : Pool} (A_t A_t_words : Nat) (n_t_words : Nat) {t_words : Nat → Int64} {p1 : Int32} {p2 : Int32} {p3 : Int64} {post : (Nat → Int64) → Prop} (hw : wp_X5_joinHalf n_t_words t_words p1 p2 p3 post) : MV l yX5_joinHalf cX5_joinHalf 5 (none : Option Jvm.ClassFile.FieldType) (rmL 1) g Fz0 [.ref A_t, .int p1, .int p2, .long p3] (w_X5_joinHalf g A_t A_t_words n_t_words t_words) pl (fun (u : (Nat → Int64)) => post u) (fun u => (w_X5_joinHalf g A_t A_t_words n_t_words u)) (fun _ => pl) 0 0 := by
  refine met_v (own := RX5) rfl rfl (Nat.le_of_ble_eq_true rfl) (fun X hg hl C hini hret => ?_)
  subst hg
  subst hl
  exact m_X5_joinHalf C (fun w0 pc lo hp hd => hret w0 pc lo hp hd) hw
abbrev w_X5_join (g : GG) (A_t A_a2 A_a2_words A_t_words : Nat) (n_a2_words n_t_words : Nat) (a2_words : Nat → Int64) (t_words : Nat → Int64) : va_W := [(A_t, ob 5 [.ref A_t_words]), (A_a2, ob 5 [.ref A_a2_words]), (A_a2_words, aJ g n_a2_words a2_words), (A_t_words, aJ g n_t_words t_words)]
set_option maxRecDepth 20000 in
theorem m_X5_join {X : Ctx} (C : Cok X cX5_join 4 RX5 (rmL 2) Fz0) {pl : Pool} {A_t A_a2 A_a2_words A_t_words : Nat} {n_a2_words n_t_words : Nat} {a2_words : Nat → Int64} {t_words : Nat → Int64} {p1 : Int32} {p3 : Int32} {post : (Nat → Int64) → Prop} (hret : ∀ (w0 : Nat → Int64) (pc : Nat) (lo : List (Option Value)), post w0 → decode cX5_join pc = .ok (.return_, 1) → AW X 4 0 0 (w_X5_join (cxG X) A_t A_a2 A_a2_words A_t_words n_a2_words n_t_words a2_words w0) pl pc lo []) (hw : wp_X5_join n_a2_words n_t_words a2_words t_words p1 p3 post) : AW X 4 0 0 (w_X5_join (cxG X) A_t A_a2 A_a2_words A_t_words n_a2_words n_t_words a2_words t_words) pl 0 [some (.ref A_t), some (.int p1), some (.ref A_a2), some (.int p3)] [] := by
  replace hw : wp_X5_word n_a2_words a2_words p3 0 (fun r6 => wp_X5_joinHalf n_t_words t_words p1 0 r6 (fun t_words_9 => wp_X5_word n_a2_words a2_words p3 1 (fun r18 => wp_X5_joinHalf n_t_words t_words_9 p1 1 r18 (fun t_words_21 => post t_words_21)))) := hw
  refine a_aload_n (pc := 0) (i := 0) C dX5_join_0 rfl rfl ?_
  refine a_iload_n (pc := 1) (i := 1) C dX5_join_1 rfl rfl ?_
  refine a_iconst (pc := 2) C dX5_join_2 kc_0 ?_
  refine a_aload_n (pc := 3) (i := 2) C dX5_join_3 rfl rfl ?_
  refine a_iload_n (pc := 4) (i := 3) C dX5_join_4 rfl rfl ?_
  refine a_iconst (pc := 5) C dX5_join_5 kc_0 ?_
  refine a_callVl (pc := 6) (As := [.int p3, .int 0]) (st := [.int 0, .int p1, .ref A_t]) (ws' := (fun _ => (w_X5_join (cxG X) A_t A_a2 A_a2_words A_t_words n_a2_words n_t_words a2_words t_words))) C (c_X5_word A_a2 A_a2_words n_a2_words hw) dX5_join_6 mth_X5_word tml_X5_31 (fun _ _ h => trivial) Fz0_ok (rml (by decide) (by decide)) (Nat.le_of_ble_eq_true rfl) rfl rfl [1, 2] [0, 3] [0, 2, 3, 1] rfl rfl rfl rfl rfl rfl (ci := 5) rfl ⟨0, _, rfl⟩ (fun _ => rfl) rfl (fun _ => rfl) (fun r6 u hw => ?_)
  show AW X 4 0 0 (w_X5_join (cxG X) A_t A_a2 A_a2_words A_t_words n_a2_words n_t_words a2_words t_words) pl 9 [some (.ref A_t), some (.int p1), some (.ref A_a2), some (.int p3)] [.long r6, .int 0, .int p1, .ref A_t]
  refine a_callVv (pc := 9) (As := [.int p1, .int 0, .long r6]) (st := []) (ws' := (fun u => (w_X5_join (cxG X) A_t A_a2 A_a2_words A_t_words n_a2_words n_t_words a2_words u))) C (c_X5_joinHalf A_t A_t_words n_t_words hw) dX5_join_9 mth_X5_joinHalf tml_X5_35 (fun _ _ h => trivial) Fz0_ok (rml (by decide) (by decide)) (Nat.le_of_ble_eq_true rfl) rfl rfl [0, 3] [1, 2] [2, 0, 1, 3] rfl rfl rfl rfl rfl rfl (ci := 5) rfl ⟨0, _, rfl⟩ (fun _ => rfl) rfl (fun _ => rfl) (fun u hw => ?_)
  obtain ⟨t_words_9, rfl⟩ : ∃ z, z = u := ⟨_, rfl⟩
  show AW X 4 0 0 (w_X5_join (cxG X) A_t A_a2 A_a2_words A_t_words n_a2_words n_t_words a2_words t_words_9) pl 12 [some (.ref A_t), some (.int p1), some (.ref A_a2), some (.int p3)] []
  refine a_aload_n (pc := 12) (i := 0) C dX5_join_12 rfl rfl ?_
  refine a_iload_n (pc := 13) (i := 1) C dX5_join_13 rfl rfl ?_
  refine a_iconst (pc := 14) C dX5_join_14 kc_1 ?_
  refine a_aload_n (pc := 15) (i := 2) C dX5_join_15 rfl rfl ?_
  refine a_iload_n (pc := 16) (i := 3) C dX5_join_16 rfl rfl ?_
  refine a_iconst (pc := 17) C dX5_join_17 kc_1 ?_
  refine a_callVl (pc := 18) (As := [.int p3, .int 1]) (st := [.int 1, .int p1, .ref A_t]) (ws' := (fun _ => (w_X5_join (cxG X) A_t A_a2 A_a2_words A_t_words n_a2_words n_t_words a2_words t_words_9))) C (c_X5_word A_a2 A_a2_words n_a2_words hw) dX5_join_18 mth_X5_word tml_X5_31 (fun _ _ h => trivial) Fz0_ok (rml (by decide) (by decide)) (Nat.le_of_ble_eq_true rfl) rfl rfl [1, 2] [0, 3] [0, 2, 3, 1] rfl rfl rfl rfl rfl rfl (ci := 5) rfl ⟨0, _, rfl⟩ (fun _ => rfl) rfl (fun _ => rfl) (fun r18 u hw => ?_)
  show AW X 4 0 0 (w_X5_join (cxG X) A_t A_a2 A_a2_words A_t_words n_a2_words n_t_words a2_words t_words_9) pl 21 [some (.ref A_t), some (.int p1), some (.ref A_a2), some (.int p3)] [.long r18, .int 1, .int p1, .ref A_t]
  refine a_callVv (pc := 21) (As := [.int p1, .int 1, .long r18]) (st := []) (ws' := (fun u => (w_X5_join (cxG X) A_t A_a2 A_a2_words A_t_words n_a2_words n_t_words a2_words u))) C (c_X5_joinHalf A_t A_t_words n_t_words hw) dX5_join_21 mth_X5_joinHalf tml_X5_35 (fun _ _ h => trivial) Fz0_ok (rml (by decide) (by decide)) (Nat.le_of_ble_eq_true rfl) rfl rfl [0, 3] [1, 2] [2, 0, 1, 3] rfl rfl rfl rfl rfl rfl (ci := 5) rfl ⟨0, _, rfl⟩ (fun _ => rfl) rfl (fun _ => rfl) (fun u hw => ?_)
  obtain ⟨t_words_21, rfl⟩ : ∃ z, z = u := ⟨_, rfl⟩
  show AW X 4 0 0 (w_X5_join (cxG X) A_t A_a2 A_a2_words A_t_words n_a2_words n_t_words a2_words t_words_21) pl 24 [some (.ref A_t), some (.int p1), some (.ref A_a2), some (.int p3)] []
  exact hret _ _ _ hw dX5_join_24
theorem c_X5_join {l : Launch} {g : GG} {pl : Pool} (A_t A_a2 A_a2_words A_t_words : Nat) (n_a2_words n_t_words : Nat) {a2_words : Nat → Int64} {t_words : Nat → Int64} {p1 : Int32} {p3 : Int32} {post : (Nat → Int64) → Prop} (hw : wp_X5_join n_a2_words n_t_words a2_words t_words p1 p3 post) : MV l yX5_join cX5_join 4 (none : Option Jvm.ClassFile.FieldType) (rmL 2) g Fz0 [.ref A_t, .int p1, .ref A_a2, .int p3] (w_X5_join g A_t A_a2 A_a2_words A_t_words n_a2_words n_t_words a2_words t_words) pl (fun (u : (Nat → Int64)) => post u) (fun u => (w_X5_join g A_t A_a2 A_a2_words A_t_words n_a2_words n_t_words a2_words u)) (fun _ => pl) 0 0 := by
  refine met_v (own := RX5) rfl rfl (Nat.le_of_ble_eq_true rfl) (fun X hg hl C hini hret => ?_)
  subst hg
  subst hl
  exact m_X5_join C (fun w0 pc lo hp hd => hret w0 pc lo hp hd) hw
abbrev w_X5_empty (g : GG) (A_t A_t_words : Nat) (n_t_words : Nat) (t_words : Nat → Int64) : va_W := [(A_t, ob 5 [.ref A_t_words]), (A_t_words, aJ g n_t_words t_words)]
set_option maxRecDepth 20000 in
theorem m_X5_empty {X : Ctx} (C : Cok X cX5_empty 1 RX5 (rmL 1) Fz0) {pl : Pool} {A_t A_t_words : Nat} {n_t_words : Nat} {t_words : Nat → Int64} {post : (Nat → Int64) → Prop} (hret : ∀ (w0 : Nat → Int64) (pc : Nat) (lo : List (Option Value)), post w0 → decode cX5_empty pc = .ok (.return_, 1) → AW X 1 0 0 (w_X5_empty (cxG X) A_t A_t_words n_t_words w0) pl pc lo []) (hw : wp_X5_empty n_t_words t_words post) : AW X 1 0 0 (w_X5_empty (cxG X) A_t A_t_words n_t_words t_words) pl 0 [some (.ref A_t)] [] := by
  replace hw : wp_J7_fill_d0a16 n_t_words t_words 0 (fun t_words_5 => post t_words_5) := hw
  refine a_aload_n (pc := 0) (i := 0) C dX5_empty_0 rfl rfl ?_
  refine a_get (pc := 1) C fl_X5_15 dX5_empty_1 0 rfl rfl ?_
  refine a_lconst (pc := 4) (v := 0) C dX5_empty_4 rfl ?_
  refine a_callSv (pc := 5) (As := [.ref A_t_words, .long 0]) (st := []) (ws' := (fun u => (w_X5_empty (cxG X) A_t A_t_words n_t_words u))) C (c_J7_fill_d0a16 A_t_words n_t_words hw) dX5_empty_5 mth_J7_fill_d0a16 tml_X5_39 (fun _ _ h => trivial) Fz0_ok (rml (by decide) (by decide)) (Nat.le_of_ble_eq_true rfl) rfl rfl [1] [0] [0, 1] rfl rfl rfl rfl rfl rfl (fun _ => rfl) rfl (fun _ => rfl) (fun u hw => ?_)
  obtain ⟨t_words_5, rfl⟩ : ∃ z, z = u := ⟨_, rfl⟩
  show AW X 1 0 0 (w_X5_empty (cxG X) A_t A_t_words n_t_words t_words_5) pl 8 [some (.ref A_t)] []
  exact hret _ _ _ hw dX5_empty_8
theorem c_X5_empty {l : Launch} {g : GG} {pl : Pool} (A_t A_t_words : Nat) (n_t_words : Nat) {t_words : Nat → Int64} {post : (Nat → Int64) → Prop} (hw : wp_X5_empty n_t_words t_words post) : MV l yX5_empty cX5_empty 1 (none : Option Jvm.ClassFile.FieldType) (rmL 1) g Fz0 [.ref A_t] (w_X5_empty g A_t A_t_words n_t_words t_words) pl (fun (u : (Nat → Int64)) => post u) (fun u => (w_X5_empty g A_t A_t_words n_t_words u)) (fun _ => pl) 0 0 := by
  refine met_v (own := RX5) rfl rfl (Nat.le_of_ble_eq_true rfl) (fun X hg hl C hini hret => ?_)
  subst hg
  subst hl
  exact m_X5_empty C (fun w0 pc lo hp hd => hret w0 pc lo hp hd) hw
abbrev w_X5_emptyRow (g : GG) (A_t A_t_words : Nat) (n_t_words : Nat) (t_words : Nat → Int64) : va_W := [(A_t, ob 5 [.ref A_t_words]), (A_t_words, aJ g n_t_words t_words)]
set_option maxRecDepth 20000 in
theorem m_X5_emptyRow {X : Ctx} (C : Cok X cX5_emptyRow 2 RX5 (rmL 1) Fz0) {pl : Pool} {A_t A_t_words : Nat} {n_t_words : Nat} {t_words : Nat → Int64} {p1 : Int32} {post : (Nat → Int64) → Prop} (hret : ∀ (w0 : Nat → Int64) (pc : Nat) (lo : List (Option Value)), post w0 → decode cX5_emptyRow pc = .ok (.return_, 1) → AW X 2 0 0 (w_X5_emptyRow (cxG X) A_t A_t_words n_t_words w0) pl pc lo []) (hw : wp_X5_emptyRow n_t_words t_words p1 post) : AW X 2 0 0 (w_X5_emptyRow (cxG X) A_t A_t_words n_t_words t_words) pl 0 [some (.ref A_t), some (.int p1)] [] := by
  replace hw : wp_X5_holds n_t_words t_words p1 (fun r2 => (r2 = 0 → (post t_words)) ∧ (¬ r2 = 0 → (∀ x16 : Int32, x16 = (2 * p1) → (vp_in x16 n_t_words ∧ (∀ t_words_16 : Nat → Int64, t_words_16 = vp_updL t_words (Int32.toNatClampNeg x16) 0 → (∀ x27 : Int32, x27 = ((2 * p1) + 1) → (vp_in x27 n_t_words ∧ (∀ t_words_27 : Nat → Int64, t_words_27 = vp_updL t_words_16 (Int32.toNatClampNeg x27) 0 → (post t_words_27))))))))) := hw
  refine a_aload_n (pc := 0) (i := 0) C dX5_emptyRow_0 rfl rfl ?_
  refine a_iload_n (pc := 1) (i := 1) C dX5_emptyRow_1 rfl rfl ?_
  refine a_callVi (pc := 2) (As := [.int p1]) (st := []) (ws' := (fun _ => (w_X5_emptyRow (cxG X) A_t A_t_words n_t_words t_words))) C (c_X5_holds A_t A_t_words n_t_words hw) dX5_emptyRow_2 mth_X5_holds tml_X5_21 (fun _ _ h => trivial) Fz0_ok (rml (by decide) (by decide)) (Nat.le_of_ble_eq_true rfl) rfl rfl [0, 1] [] [0, 1] rfl rfl rfl rfl rfl rfl (ci := 5) rfl ⟨0, _, rfl⟩ (fun _ => rfl) rfl (fun _ => rfl) (fun r2 u hw => ?_)
  obtain ⟨z_2, hw⟩ := hw
  show AW X 2 0 0 (w_X5_emptyRow (cxG X) A_t A_t_words n_t_words t_words) pl 5 [some (.ref A_t), some (.int p1)] [.int r2]
  refine a_if_eq (pc := 5) (tgt := 28) C dX5_emptyRow_5 (by decide) (fun c_5 => ?_) (fun c_5 => ?_)
  · replace hw := hw.1 c_5
    exact hret _ _ _ hw dX5_emptyRow_28
  · replace hw := hw.2 c_5
    refine a_aload_n (pc := 8) (i := 0) C dX5_emptyRow_8 rfl rfl ?_
    refine a_get (pc := 9) C fl_X5_15 dX5_emptyRow_9 0 rfl rfl ?_
    refine a_iconst (pc := 12) C dX5_emptyRow_12 kc_2 ?_
    refine a_iload_n (pc := 13) (i := 1) C dX5_emptyRow_13 rfl rfl ?_
    refine a_imul (pc := 14) C dX5_emptyRow_14 ?_
    refine a_lconst (pc := 15) (v := 0) C dX5_emptyRow_15 rfl ?_
    refine a_top2i (fun x16 e_x16 => ?_)
    replace hw := hw x16 e_x16
    obtain ⟨i_16, hw⟩ := hw
    refine a_lastW (pc := 16) C (fun h => (w_X5_emptyRow (cxG X) A_t A_t_words n_t_words h)) dX5_emptyRow_16 1 rfl i_16 (fun _ => rfl) (fun t_words_16 e_t_words_16 => ?_)
    replace hw := hw t_words_16 e_t_words_16
    refine a_aload_n (pc := 17) (i := 0) C dX5_emptyRow_17 rfl rfl ?_
    refine a_get (pc := 18) C fl_X5_15 dX5_emptyRow_18 0 rfl rfl ?_
    refine a_iconst (pc := 21) C dX5_emptyRow_21 kc_2 ?_
    refine a_iload_n (pc := 22) (i := 1) C dX5_emptyRow_22 rfl rfl ?_
    refine a_imul (pc := 23) C dX5_emptyRow_23 ?_
    refine a_iconst (pc := 24) C dX5_emptyRow_24 kc_1 ?_
    refine a_iadd (pc := 25) C dX5_emptyRow_25 ?_
    refine a_lconst (pc := 26) (v := 0) C dX5_emptyRow_26 rfl ?_
    refine a_top2i (fun x27 e_x27 => ?_)
    replace hw := hw x27 e_x27
    obtain ⟨i_27, hw⟩ := hw
    refine a_lastW (pc := 27) C (fun h => (w_X5_emptyRow (cxG X) A_t A_t_words n_t_words h)) dX5_emptyRow_27 1 rfl i_27 (fun _ => rfl) (fun t_words_27 e_t_words_27 => ?_)
    replace hw := hw t_words_27 e_t_words_27
    exact hret _ _ _ hw dX5_emptyRow_28
theorem c_X5_emptyRow {l : Launch} {g : GG} {pl : Pool} (A_t A_t_words : Nat) (n_t_words : Nat) {t_words : Nat → Int64} {p1 : Int32} {post : (Nat → Int64) → Prop} (hw : wp_X5_emptyRow n_t_words t_words p1 post) : MV l yX5_emptyRow cX5_emptyRow 2 (none : Option Jvm.ClassFile.FieldType) (rmL 1) g Fz0 [.ref A_t, .int p1] (w_X5_emptyRow g A_t A_t_words n_t_words t_words) pl (fun (u : (Nat → Int64)) => post u) (fun u => (w_X5_emptyRow g A_t A_t_words n_t_words u)) (fun _ => pl) 0 0 := by
  refine met_v (own := RX5) rfl rfl (Nat.le_of_ble_eq_true rfl) (fun X hg hl C hini hret => ?_)
  subst hg
  subst hl
  exact m_X5_emptyRow C (fun w0 pc lo hp hd => hret w0 pc lo hp hd) hw
abbrev w_X5_fillRow (g : GG) (A_t A_t_words : Nat) (n_t_words : Nat) (t_words : Nat → Int64) : va_W := [(A_t, ob 5 [.ref A_t_words]), (A_t_words, aJ g n_t_words t_words)]
set_option maxRecDepth 20000 in
theorem m_X5_fillRow {X : Ctx} (C : Cok X cX5_fillRow 2 RX5 (rmL 1) Fz0) {pl : Pool} {A_t A_t_words : Nat} {n_t_words : Nat} {t_words : Nat → Int64} {p1 : Int32} {post : (Nat → Int64) → Prop} (hret : ∀ (w0 : Nat → Int64) (pc : Nat) (lo : List (Option Value)), post w0 → decode cX5_fillRow pc = .ok (.return_, 1) → AW X 2 0 0 (w_X5_fillRow (cxG X) A_t A_t_words n_t_words w0) pl pc lo []) (hw : wp_X5_fillRow n_t_words t_words p1 post) : AW X 2 0 0 (w_X5_fillRow (cxG X) A_t A_t_words n_t_words t_words) pl 0 [some (.ref A_t), some (.int p1)] [] := by
  replace hw : wp_X5_holds n_t_words t_words p1 (fun r2 => (r2 = 0 → (post t_words)) ∧ (¬ r2 = 0 → (∀ x18 : Int32, x18 = (2 * p1) → (vp_in x18 n_t_words ∧ (∀ t_words_18 : Nat → Int64, t_words_18 = vp_updL t_words (Int32.toNatClampNeg x18) (-1) → (∀ x31 : Int32, x31 = ((2 * p1) + 1) → (vp_in x31 n_t_words ∧ (∀ t_words_31 : Nat → Int64, t_words_31 = vp_updL t_words_18 (Int32.toNatClampNeg x31) 68719476735 → (post t_words_31))))))))) := hw
  refine a_aload_n (pc := 0) (i := 0) C dX5_fillRow_0 rfl rfl ?_
  refine a_iload_n (pc := 1) (i := 1) C dX5_fillRow_1 rfl rfl ?_
  refine a_callVi (pc := 2) (As := [.int p1]) (st := []) (ws' := (fun _ => (w_X5_fillRow (cxG X) A_t A_t_words n_t_words t_words))) C (c_X5_holds A_t A_t_words n_t_words hw) dX5_fillRow_2 mth_X5_holds tml_X5_21 (fun _ _ h => trivial) Fz0_ok (rml (by decide) (by decide)) (Nat.le_of_ble_eq_true rfl) rfl rfl [0, 1] [] [0, 1] rfl rfl rfl rfl rfl rfl (ci := 5) rfl ⟨0, _, rfl⟩ (fun _ => rfl) rfl (fun _ => rfl) (fun r2 u hw => ?_)
  obtain ⟨z_2, hw⟩ := hw
  show AW X 2 0 0 (w_X5_fillRow (cxG X) A_t A_t_words n_t_words t_words) pl 5 [some (.ref A_t), some (.int p1)] [.int r2]
  refine a_if_eq (pc := 5) (tgt := 32) C dX5_fillRow_5 (by decide) (fun c_5 => ?_) (fun c_5 => ?_)
  · replace hw := hw.1 c_5
    exact hret _ _ _ hw dX5_fillRow_32
  · replace hw := hw.2 c_5
    refine a_aload_n (pc := 8) (i := 0) C dX5_fillRow_8 rfl rfl ?_
    refine a_get (pc := 9) C fl_X5_15 dX5_fillRow_9 0 rfl rfl ?_
    refine a_iconst (pc := 12) C dX5_fillRow_12 kc_2 ?_
    refine a_iload_n (pc := 13) (i := 1) C dX5_fillRow_13 rfl rfl ?_
    refine a_imul (pc := 14) C dX5_fillRow_14 ?_
    refine a_ldc2 (pc := 15) C dX5_fillRow_15 tk_X5_45 ?_
    refine a_top2i (fun x18 e_x18 => ?_)
    replace hw := hw x18 e_x18
    obtain ⟨i_18, hw⟩ := hw
    refine a_lastW (pc := 18) C (fun h => (w_X5_fillRow (cxG X) A_t A_t_words n_t_words h)) dX5_fillRow_18 1 rfl i_18 (fun _ => rfl) (fun t_words_18 e_t_words_18 => ?_)
    replace hw := hw t_words_18 e_t_words_18
    refine a_aload_n (pc := 19) (i := 0) C dX5_fillRow_19 rfl rfl ?_
    refine a_get (pc := 20) C fl_X5_15 dX5_fillRow_20 0 rfl rfl ?_
    refine a_iconst (pc := 23) C dX5_fillRow_23 kc_2 ?_
    refine a_iload_n (pc := 24) (i := 1) C dX5_fillRow_24 rfl rfl ?_
    refine a_imul (pc := 25) C dX5_fillRow_25 ?_
    refine a_iconst (pc := 26) C dX5_fillRow_26 kc_1 ?_
    refine a_iadd (pc := 27) C dX5_fillRow_27 ?_
    refine a_ldc2 (pc := 28) C dX5_fillRow_28 tk_X5_47 ?_
    refine a_top2i (fun x31 e_x31 => ?_)
    replace hw := hw x31 e_x31
    obtain ⟨i_31, hw⟩ := hw
    refine a_lastW (pc := 31) C (fun h => (w_X5_fillRow (cxG X) A_t A_t_words n_t_words h)) dX5_fillRow_31 1 rfl i_31 (fun _ => rfl) (fun t_words_31 e_t_words_31 => ?_)
    replace hw := hw t_words_31 e_t_words_31
    exact hret _ _ _ hw dX5_fillRow_32
theorem c_X5_fillRow {l : Launch} {g : GG} {pl : Pool} (A_t A_t_words : Nat) (n_t_words : Nat) {t_words : Nat → Int64} {p1 : Int32} {post : (Nat → Int64) → Prop} (hw : wp_X5_fillRow n_t_words t_words p1 post) : MV l yX5_fillRow cX5_fillRow 2 (none : Option Jvm.ClassFile.FieldType) (rmL 1) g Fz0 [.ref A_t, .int p1] (w_X5_fillRow g A_t A_t_words n_t_words t_words) pl (fun (u : (Nat → Int64)) => post u) (fun u => (w_X5_fillRow g A_t A_t_words n_t_words u)) (fun _ => pl) 0 0 := by
  refine met_v (own := RX5) rfl rfl (Nat.le_of_ble_eq_true rfl) (fun X hg hl C hini hret => ?_)
  subst hg
  subst hl
  exact m_X5_fillRow C (fun w0 pc lo hp hd => hret w0 pc lo hp hd) hw
abbrev w_X5_howMany (g : GG) (A_t A_a2 A_t_words A_a2_words : Nat) (n_t_words n_a2_words : Nat) (t_words : Nat → Int64) (a2_words : Nat → Int64) : va_W := [(A_t, ob 5 [.ref A_t_words]), (A_a2, ob 5 [.ref A_a2_words]), (A_t_words, aJ g n_t_words t_words), (A_a2_words, aJ g n_a2_words a2_words)]
set_option maxRecDepth 20000 in
theorem m_X5_howMany {X : Ctx} (C : Cok X cX5_howMany 3 RX5 (rmL 1) Fz0) {pl : Pool} {A_t A_a2 A_t_words A_a2_words : Nat} {n_t_words n_a2_words : Nat} {t_words : Nat → Int64} {a2_words : Nat → Int64} {p1 : Int32} {post : Int32 → Prop} (hret : ∀ (r : Int32) (pc : Nat) (lo : List (Option Value)), post r → decode cX5_howMany pc = .ok (.ireturn, 1) → AW X 3 0 0 (w_X5_howMany (cxG X) A_t A_a2 A_t_words A_a2_words n_t_words n_a2_words t_words a2_words) pl pc lo [.int r]) (hw : wp_X5_howMany n_t_words n_a2_words t_words a2_words p1 post) : AW X 3 0 0 (w_X5_howMany (cxG X) A_t A_a2 A_t_words A_a2_words n_t_words n_a2_words t_words a2_words) pl 0 [some (.ref A_t), some (.int p1), some (.ref A_a2)] [] := by
  replace hw : wp_X5_holds n_t_words t_words p1 (fun r2 => (r2 = 0 → (post 0)) ∧ (¬ r2 = 0 → (wp_X5_holds n_a2_words a2_words 0 (fun r10 => (¬ r10 = 0 → (∀ x25 : Int32, x25 = (2 * p1) → (vp_in x25 n_t_words ∧ (vp_in 0 n_a2_words ∧ (wp_J13_bitCount_95d88 ((t_words (Int32.toNatClampNeg x25)) &&& (a2_words (Int32.toNatClampNeg 0))) (fun r33 => ∀ x45 : Int32, x45 = ((2 * p1) + 1) → (vp_in x45 n_t_words ∧ (vp_in 1 n_a2_words ∧ (wp_J13_bitCount_95d88 ((t_words (Int32.toNatClampNeg x45)) &&& (a2_words (Int32.toNatClampNeg 1))) (fun r53 => post (r33 + r53))))))))))) ∧ (r10 = 0 → (post 0)))))) := hw
  refine a_aload_n (pc := 0) (i := 0) C dX5_howMany_0 rfl rfl ?_
  refine a_iload_n (pc := 1) (i := 1) C dX5_howMany_1 rfl rfl ?_
  refine a_callVi (pc := 2) (As := [.int p1]) (st := []) (ws' := (fun _ => (w_X5_howMany (cxG X) A_t A_a2 A_t_words A_a2_words n_t_words n_a2_words t_words a2_words))) C (c_X5_holds A_t A_t_words n_t_words hw) dX5_howMany_2 mth_X5_holds tml_X5_21 (fun _ _ h => trivial) Fz0_ok (rml (by decide) (by decide)) (Nat.le_of_ble_eq_true rfl) rfl rfl [0, 2] [1, 3] [2, 0, 3, 1] rfl rfl rfl rfl rfl rfl (ci := 5) rfl ⟨0, _, rfl⟩ (fun _ => rfl) rfl (fun _ => rfl) (fun r2 u hw => ?_)
  obtain ⟨z_2, hw⟩ := hw
  show AW X 3 0 0 (w_X5_howMany (cxG X) A_t A_a2 A_t_words A_a2_words n_t_words n_a2_words t_words a2_words) pl 5 [some (.ref A_t), some (.int p1), some (.ref A_a2)] [.int r2]
  refine a_if_eq (pc := 5) (tgt := 16) C dX5_howMany_5 (by decide) (fun c_5 => ?_) (fun c_5 => ?_)
  · replace hw := hw.1 c_5
    refine a_iconst (pc := 16) C dX5_howMany_16 kc_0 ?_
    exact hret _ _ _ hw dX5_howMany_17
  · replace hw := hw.2 c_5
    refine a_aload_n (pc := 8) (i := 2) C dX5_howMany_8 rfl rfl ?_
    refine a_iconst (pc := 9) C dX5_howMany_9 kc_0 ?_
    refine a_callVi (pc := 10) (As := [.int 0]) (st := []) (ws' := (fun _ => (w_X5_howMany (cxG X) A_t A_a2 A_t_words A_a2_words n_t_words n_a2_words t_words a2_words))) C (c_X5_holds A_a2 A_a2_words n_a2_words hw) dX5_howMany_10 mth_X5_holds tml_X5_21 (fun _ _ h => trivial) Fz0_ok (rml (by decide) (by decide)) (Nat.le_of_ble_eq_true rfl) rfl rfl [1, 3] [0, 2] [0, 2, 1, 3] rfl rfl rfl rfl rfl rfl (ci := 5) rfl ⟨0, _, rfl⟩ (fun _ => rfl) rfl (fun _ => rfl) (fun r10 u hw => ?_)
    obtain ⟨z_10, hw⟩ := hw
    show AW X 3 0 0 (w_X5_howMany (cxG X) A_t A_a2 A_t_words A_a2_words n_t_words n_a2_words t_words a2_words) pl 13 [some (.ref A_t), some (.int p1), some (.ref A_a2)] [.int r10]
    refine a_if_ne (pc := 13) (tgt := 18) C dX5_howMany_13 (by decide) (fun c_13 => ?_) (fun c_13 => ?_)
    · replace hw := hw.1 c_13
      refine a_aload_n (pc := 18) (i := 0) C dX5_howMany_18 rfl rfl ?_
      refine a_get (pc := 19) C fl_X5_15 dX5_howMany_19 0 rfl rfl ?_
      refine a_iconst (pc := 22) C dX5_howMany_22 kc_2 ?_
      refine a_iload_n (pc := 23) (i := 1) C dX5_howMany_23 rfl rfl ?_
      refine a_imul (pc := 24) C dX5_howMany_24 ?_
      refine a_topi (fun x25 e_x25 => ?_)
      replace hw := hw x25 e_x25
      obtain ⟨i_25, hw⟩ := hw
      refine a_lald (pc := 25) C dX5_howMany_25 2 rfl i_25 ?_
      refine a_aload_n (pc := 26) (i := 2) C dX5_howMany_26 rfl rfl ?_
      refine a_get (pc := 27) C fl_X5_15 dX5_howMany_27 1 rfl rfl ?_
      refine a_iconst (pc := 30) C dX5_howMany_30 kc_0 ?_
      obtain ⟨i_31, hw⟩ := hw
      refine a_lald (pc := 31) C dX5_howMany_31 3 rfl i_31 ?_
      refine a_land (pc := 32) C dX5_howMany_32 ?_
      refine a_callSi (pc := 33) (As := [.long ((t_words (Int32.toNatClampNeg x25)) &&& (a2_words (Int32.toNatClampNeg 0)))]) (st := []) (ws' := (fun _ => (w_X5_howMany (cxG X) A_t A_a2 A_t_words A_a2_words n_t_words n_a2_words t_words a2_words))) C (c_J13_bitCount_95d88 hw) dX5_howMany_33 mth_J13_bitCount_95d88 tml_X5_25 (fun _ _ h => trivial) Fz0_ok (rml (by decide) (by decide)) (Nat.le_of_ble_eq_true rfl) rfl rfl [] [0, 1, 2, 3] [0, 1, 2, 3] rfl rfl rfl rfl rfl rfl (fun _ => rfl) rfl (fun _ => rfl) (fun r33 u hw => ?_)
      show AW X 3 0 0 (w_X5_howMany (cxG X) A_t A_a2 A_t_words A_a2_words n_t_words n_a2_words t_words a2_words) pl 36 [some (.ref A_t), some (.int p1), some (.ref A_a2)] [.int r33]
      refine a_aload_n (pc := 36) (i := 0) C dX5_howMany_36 rfl rfl ?_
      refine a_get (pc := 37) C fl_X5_15 dX5_howMany_37 0 rfl rfl ?_
      refine a_iconst (pc := 40) C dX5_howMany_40 kc_2 ?_
      refine a_iload_n (pc := 41) (i := 1) C dX5_howMany_41 rfl rfl ?_
      refine a_imul (pc := 42) C dX5_howMany_42 ?_
      refine a_iconst (pc := 43) C dX5_howMany_43 kc_1 ?_
      refine a_iadd (pc := 44) C dX5_howMany_44 ?_
      refine a_topi (fun x45 e_x45 => ?_)
      replace hw := hw x45 e_x45
      obtain ⟨i_45, hw⟩ := hw
      refine a_lald (pc := 45) C dX5_howMany_45 2 rfl i_45 ?_
      refine a_aload_n (pc := 46) (i := 2) C dX5_howMany_46 rfl rfl ?_
      refine a_get (pc := 47) C fl_X5_15 dX5_howMany_47 1 rfl rfl ?_
      refine a_iconst (pc := 50) C dX5_howMany_50 kc_1 ?_
      obtain ⟨i_51, hw⟩ := hw
      refine a_lald (pc := 51) C dX5_howMany_51 3 rfl i_51 ?_
      refine a_land (pc := 52) C dX5_howMany_52 ?_
      refine a_callSi (pc := 53) (As := [.long ((t_words (Int32.toNatClampNeg x45)) &&& (a2_words (Int32.toNatClampNeg 1)))]) (st := [.int r33]) (ws' := (fun _ => (w_X5_howMany (cxG X) A_t A_a2 A_t_words A_a2_words n_t_words n_a2_words t_words a2_words))) C (c_J13_bitCount_95d88 hw) dX5_howMany_53 mth_J13_bitCount_95d88 tml_X5_25 (fun _ _ h => trivial) Fz0_ok (rml (by decide) (by decide)) (Nat.le_of_ble_eq_true rfl) rfl rfl [] [0, 1, 2, 3] [0, 1, 2, 3] rfl rfl rfl rfl rfl rfl (fun _ => rfl) rfl (fun _ => rfl) (fun r53 u hw => ?_)
      show AW X 3 0 0 (w_X5_howMany (cxG X) A_t A_a2 A_t_words A_a2_words n_t_words n_a2_words t_words a2_words) pl 56 [some (.ref A_t), some (.int p1), some (.ref A_a2)] [.int r53, .int r33]
      refine a_iadd (pc := 56) C dX5_howMany_56 ?_
      exact hret _ _ _ hw dX5_howMany_57
    · replace hw := hw.2 c_13
      refine a_iconst (pc := 16) C dX5_howMany_16 kc_0 ?_
      exact hret _ _ _ hw dX5_howMany_17
theorem c_X5_howMany {l : Launch} {g : GG} {pl : Pool} (A_t A_a2 A_t_words A_a2_words : Nat) (n_t_words n_a2_words : Nat) {t_words : Nat → Int64} {a2_words : Nat → Int64} {p1 : Int32} {post : Int32 → Prop} (hw : wp_X5_howMany n_t_words n_a2_words t_words a2_words p1 post) : MI l yX5_howMany cX5_howMany 3 (some .int) (rmL 1) g Fz0 [.ref A_t, .int p1, .ref A_a2] (w_X5_howMany g A_t A_a2 A_t_words A_a2_words n_t_words n_a2_words t_words a2_words) pl (fun r (_ : Unit) => post r) (fun _ => (w_X5_howMany g A_t A_a2 A_t_words A_a2_words n_t_words n_a2_words t_words a2_words)) (fun _ => pl) 0 0 := by
  refine met_i (own := RX5) rfl rfl (Nat.le_of_ble_eq_true rfl) (fun X hg hl C hini hret => ?_)
  subst hg
  subst hl
  exact m_X5_howMany C (fun r pc lo hp hd => hret r () pc lo hp hd) hw
abbrev w_X5_copy (g : GG) (A_t A_a1 A_t_words A_a1_words : Nat) (n_t_words n_a1_words : Nat) (t_words : Nat → Int64) (a1_words : Nat → Int64) : va_W := [(A_t, ob 5 [.ref A_t_words]), (A_a1, ob 5 [.ref A_a1_words]), (A_t_words, aJ g n_t_words t_words), (A_a1_words, aJ g n_a1_words a1_words)]
set_option maxRecDepth 20000 in
theorem m_X5_copy {X : Ctx} (C : Cok X cX5_copy 4 RX5 (rmL 1) Fz0) {pl : Pool} {A_t A_a1 A_t_words A_a1_words : Nat} {n_t_words n_a1_words : Nat} {a1_words : Nat → Int64} {t_words : Nat → Int64} {p2 : Int32} {post : (Nat → Int64) → Prop} (hret : ∀ (w0 : Nat → Int64) (pc : Nat) (lo : List (Option Value)), post w0 → decode cX5_copy pc = .ok (.return_, 1) → AW X 4 0 0 (w_X5_copy (cxG X) A_t A_a1 A_t_words A_a1_words n_t_words n_a1_words w0 a1_words) pl pc lo []) (hw : wp_X5_copy n_t_words n_a1_words a1_words t_words p2 post) : AW X 4 0 0 (w_X5_copy (cxG X) A_t A_a1 A_t_words A_a1_words n_t_words n_a1_words t_words a1_words) pl 0 [some (.ref A_t), some (.ref A_a1), some (.int p2), none] [] := by
  refine a_aload_n (pc := 0) (i := 0) C dX5_copy_0 rfl rfl ?_
  refine a_get (pc := 1) C fl_X5_15 dX5_copy_1 0 rfl rfl ?_
  refine a_alenJ (pc := 4) C dX5_copy_4 2 rfl ?_
  refine a_aload_n (pc := 5) (i := 1) C dX5_copy_5 rfl rfl ?_
  refine a_get (pc := 6) C fl_X5_15 dX5_copy_6 1 rfl rfl ?_
  refine a_alenJ (pc := 9) C dX5_copy_9 3 rfl ?_
  refine a_iconst (pc := 10) C dX5_copy_10 kc_2 ?_
  refine a_iload_n (pc := 11) (i := 2) C dX5_copy_11 rfl rfl ?_
  refine a_imul (pc := 12) C dX5_copy_12 ?_
  refine a_isub (pc := 13) C dX5_copy_13 ?_
  refine a_mmin (pc := 14) C dX5_copy_14 tml_X5_49 tst_J9_min_7cf53 tin_J9 tcd_J9_min_7cf53 (by decide) (Nat.le_of_ble_eq_true rfl) (Nat.le_refl _) (Nat.le_refl _) ?_
  refine a_topi (fun x17 e_x17 => ?_)
  replace hw := hw x17 e_x17
  refine s_istore_n (pc := 17) (i := 3) (lo' := [some (.ref A_t), some (.ref A_a1), some (.int p2), some (.int x17)]) C dX5_copy_17 rfl (by decide) rfl rfl ?_
  refine a_iload_n (pc := 18) (i := 2) C dX5_copy_18 rfl rfl ?_
  refine a_if_lt (pc := 19) (tgt := 42) C dX5_copy_19 (by decide) (fun c_19 => ?_) (fun c_19 => ?_)
  · replace hw := hw.1 c_19
    exact hret _ _ _ hw dX5_copy_42
  · replace hw := hw.2 c_19
    refine a_iload_n (pc := 22) (i := 3) C dX5_copy_22 rfl rfl ?_
    refine a_if_le (pc := 23) (tgt := 42) C dX5_copy_23 (by decide) (fun c_23 => ?_) (fun c_23 => ?_)
    · replace hw := hw.1 c_23
      exact hret _ _ _ hw dX5_copy_42
    · replace hw := hw.2 c_23
      refine a_aload_n (pc := 26) (i := 1) C dX5_copy_26 rfl rfl ?_
      refine a_get (pc := 27) C fl_X5_15 dX5_copy_27 1 rfl rfl ?_
      refine a_iconst (pc := 30) C dX5_copy_30 kc_2 ?_
      refine a_iload_n (pc := 31) (i := 2) C dX5_copy_31 rfl rfl ?_
      refine a_imul (pc := 32) C dX5_copy_32 ?_
      refine a_aload_n (pc := 33) (i := 0) C dX5_copy_33 rfl rfl ?_
      refine a_get (pc := 34) C fl_X5_15 dX5_copy_34 0 rfl rfl ?_
      refine a_iconst (pc := 37) C dX5_copy_37 kc_0 ?_
      refine a_iload_n (pc := 38) (i := 3) C dX5_copy_38 rfl rfl ?_
      obtain ⟨⟨g1_39, g2_39, g3_39, g4_39, g5_39⟩, hw⟩ := hw
      refine a_cpl (pc := 39) C (fun h => (w_X5_copy (cxG X) A_t A_a1 A_t_words A_a1_words n_t_words n_a1_words h a1_words)) dX5_copy_39 tml_X5_52 tin_J10 3 2 rfl rfl g1_39 g2_39 g3_39 g4_39 g5_39 (by decide) (Nat.le_of_ble_eq_true rfl) (fun _ => rfl) (fun t_words_39 e_t_words_39 => ?_)
      replace hw := hw t_words_39 e_t_words_39
      exact hret _ _ _ hw dX5_copy_42
theorem c_X5_copy {l : Launch} {g : GG} {pl : Pool} (A_t A_a1 A_t_words A_a1_words : Nat) (n_t_words n_a1_words : Nat) {a1_words : Nat → Int64} {t_words : Nat → Int64} {p2 : Int32} {post : (Nat → Int64) → Prop} (hw : wp_X5_copy n_t_words n_a1_words a1_words t_words p2 post) : MV l yX5_copy cX5_copy 4 (none : Option Jvm.ClassFile.FieldType) (rmL 1) g Fz0 [.ref A_t, .ref A_a1, .int p2] (w_X5_copy g A_t A_a1 A_t_words A_a1_words n_t_words n_a1_words t_words a1_words) pl (fun (u : (Nat → Int64)) => post u) (fun u => (w_X5_copy g A_t A_a1 A_t_words A_a1_words n_t_words n_a1_words u a1_words)) (fun _ => pl) 0 0 := by
  refine met_v (own := RX5) rfl rfl (Nat.le_of_ble_eq_true rfl) (fun X hg hl C hini hret => ?_)
  subst hg
  subst hl
  exact m_X5_copy C (fun w0 pc lo hp hd => hret w0 pc lo hp hd) hw
