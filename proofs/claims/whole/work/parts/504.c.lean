abbrev w_X11_isSquare (g : GG) : va_W := []
set_option maxRecDepth 20000 in
theorem m_X11_isSquare {X : Ctx} (C : Cok X cX11_isSquare 1 RX11 (rmL 0) Fz0) {pl : Pool} {p0 : Int32} {post : Int32 → Prop} (hret : ∀ (r : Int32) (pc : Nat) (lo : List (Option Value)), b01 r → post r → decode cX11_isSquare pc = .ok (.ireturn, 1) → AW X 1 0 0 (w_X11_isSquare (cxG X)) pl pc lo [.int r]) (hw : wp_X11_isSquare p0 post) : AW X 1 0 0 (w_X11_isSquare (cxG X)) pl 0 [some (.int p0)] [] := by
  refine a_iload_n (pc := 0) (i := 0) C dX11_isSquare_0 rfl rfl ?_
  refine a_if_lt (pc := 1) (tgt := 14) C dX11_isSquare_1 (by decide) (fun c_1 => ?_) (fun c_1 => ?_)
  · replace hw := hw.1 c_1
    refine a_iconst (pc := 14) C dX11_isSquare_14 kc_0 ?_
    exact hret _ _ _ (Or.inl rfl) hw dX11_isSquare_15
  · replace hw := hw.2 c_1
    refine a_iload_n (pc := 4) (i := 0) C dX11_isSquare_4 rfl rfl ?_
    refine a_bipush (pc := 5) C dX11_isSquare_5 kb_100 ?_
    refine a_icmp_ge (pc := 7) (tgt := 14) C dX11_isSquare_7 (by decide) (fun c_7 => ?_) (fun c_7 => ?_)
    · replace hw := hw.1 c_7
      refine a_iconst (pc := 14) C dX11_isSquare_14 kc_0 ?_
      exact hret _ _ _ (Or.inl rfl) hw dX11_isSquare_15
    · replace hw := hw.2 c_7
      refine a_iconst (pc := 10) C dX11_isSquare_10 kc_1 ?_
      refine a_goto (pc := 11) (tgt := 15) C dX11_isSquare_11 (by decide) ?_
      exact hret _ _ _ (Or.inr rfl) hw dX11_isSquare_15
theorem c_X11_isSquare {l : Launch} {g : GG} {pl : Pool} {p0 : Int32} {post : Int32 → Prop} (hw : wp_X11_isSquare p0 post) : MI l yX11_isSquare cX11_isSquare 1 (some .boolean) (rmL 0) g Fz0 [.int p0] (w_X11_isSquare g) pl (fun r (_ : Unit) => b01 r ∧ post r) (fun _ => (w_X11_isSquare g)) (fun _ => pl) 0 0 := by
  refine mi_b01 ?_
  refine met_z (own := RX11) rfl rfl (Nat.le_of_ble_eq_true rfl) (fun X hg hl C hini hret => ?_)
  subst hg
  subst hl
  exact m_X11_isSquare C (fun r pc lo z hp hd => hret r () pc lo (b01_nar z) hp hd) hw
abbrev w_X11_isDay (g : GG) : va_W := []
set_option maxRecDepth 20000 in
theorem m_X11_isDay {X : Ctx} (C : Cok X cX11_isDay 1 RX11 (rmL 0) Fz0) {pl : Pool} {p0 : Int32} {post : Int32 → Prop} (hret : ∀ (r : Int32) (pc : Nat) (lo : List (Option Value)), b01 r → post r → decode cX11_isDay pc = .ok (.ireturn, 1) → AW X 1 0 0 (w_X11_isDay (cxG X)) pl pc lo [.int r]) (hw : wp_X11_isDay p0 post) : AW X 1 0 0 (w_X11_isDay (cxG X)) pl 0 [some (.int p0)] [] := by
  refine a_iload_n (pc := 0) (i := 0) C dX11_isDay_0 rfl rfl ?_
  refine a_if_lt (pc := 1) (tgt := 13) C dX11_isDay_1 (by decide) (fun c_1 => ?_) (fun c_1 => ?_)
  · replace hw := hw.1 c_1
    refine a_iconst (pc := 13) C dX11_isDay_13 kc_0 ?_
    exact hret _ _ _ (Or.inl rfl) hw dX11_isDay_14
  · replace hw := hw.2 c_1
    refine a_iload_n (pc := 4) (i := 0) C dX11_isDay_4 rfl rfl ?_
    refine a_iconst (pc := 5) C dX11_isDay_5 kc_4 ?_
    refine a_icmp_ge (pc := 6) (tgt := 13) C dX11_isDay_6 (by decide) (fun c_6 => ?_) (fun c_6 => ?_)
    · replace hw := hw.1 c_6
      refine a_iconst (pc := 13) C dX11_isDay_13 kc_0 ?_
      exact hret _ _ _ (Or.inl rfl) hw dX11_isDay_14
    · replace hw := hw.2 c_6
      refine a_iconst (pc := 9) C dX11_isDay_9 kc_1 ?_
      refine a_goto (pc := 10) (tgt := 14) C dX11_isDay_10 (by decide) ?_
      exact hret _ _ _ (Or.inr rfl) hw dX11_isDay_14
theorem c_X11_isDay {l : Launch} {g : GG} {pl : Pool} {p0 : Int32} {post : Int32 → Prop} (hw : wp_X11_isDay p0 post) : MI l yX11_isDay cX11_isDay 1 (some .boolean) (rmL 0) g Fz0 [.int p0] (w_X11_isDay g) pl (fun r (_ : Unit) => b01 r ∧ post r) (fun _ => (w_X11_isDay g)) (fun _ => pl) 0 0 := by
  refine mi_b01 ?_
  refine met_z (own := RX11) rfl rfl (Nat.le_of_ble_eq_true rfl) (fun X hg hl C hini hret => ?_)
  subst hg
  subst hl
  exact m_X11_isDay C (fun r pc lo z hp hd => hret r () pc lo (b01_nar z) hp hd) hw
abbrev w_X11_isMinute (g : GG) : va_W := []
set_option maxRecDepth 20000 in
theorem m_X11_isMinute {X : Ctx} (C : Cok X cX11_isMinute 1 RX11 (rmL 0) Fz0) {pl : Pool} {p0 : Int32} {post : Int32 → Prop} (hret : ∀ (r : Int32) (pc : Nat) (lo : List (Option Value)), b01 r → post r → decode cX11_isMinute pc = .ok (.ireturn, 1) → AW X 1 0 0 (w_X11_isMinute (cxG X)) pl pc lo [.int r]) (hw : wp_X11_isMinute p0 post) : AW X 1 0 0 (w_X11_isMinute (cxG X)) pl 0 [some (.int p0)] [] := by
  refine a_iload_n (pc := 0) (i := 0) C dX11_isMinute_0 rfl rfl ?_
  refine a_if_lt (pc := 1) (tgt := 14) C dX11_isMinute_1 (by decide) (fun c_1 => ?_) (fun c_1 => ?_)
  · replace hw := hw.1 c_1
    refine a_iconst (pc := 14) C dX11_isMinute_14 kc_0 ?_
    exact hret _ _ _ (Or.inl rfl) hw dX11_isMinute_15
  · replace hw := hw.2 c_1
    refine a_iload_n (pc := 4) (i := 0) C dX11_isMinute_4 rfl rfl ?_
    refine a_bipush (pc := 5) C dX11_isMinute_5 kb_120 ?_
    refine a_icmp_ge (pc := 7) (tgt := 14) C dX11_isMinute_7 (by decide) (fun c_7 => ?_) (fun c_7 => ?_)
    · replace hw := hw.1 c_7
      refine a_iconst (pc := 14) C dX11_isMinute_14 kc_0 ?_
      exact hret _ _ _ (Or.inl rfl) hw dX11_isMinute_15
    · replace hw := hw.2 c_7
      refine a_iconst (pc := 10) C dX11_isMinute_10 kc_1 ?_
      refine a_goto (pc := 11) (tgt := 15) C dX11_isMinute_11 (by decide) ?_
      exact hret _ _ _ (Or.inr rfl) hw dX11_isMinute_15
theorem c_X11_isMinute {l : Launch} {g : GG} {pl : Pool} {p0 : Int32} {post : Int32 → Prop} (hw : wp_X11_isMinute p0 post) : MI l yX11_isMinute cX11_isMinute 1 (some .boolean) (rmL 0) g Fz0 [.int p0] (w_X11_isMinute g) pl (fun r (_ : Unit) => b01 r ∧ post r) (fun _ => (w_X11_isMinute g)) (fun _ => pl) 0 0 := by
  refine mi_b01 ?_
  refine met_z (own := RX11) rfl rfl (Nat.le_of_ble_eq_true rfl) (fun X hg hl C hini hret => ?_)
  subst hg
  subst hl
  exact m_X11_isMinute C (fun r pc lo z hp hd => hret r () pc lo (b01_nar z) hp hd) hw
abbrev w_X11_isTime (g : GG) : va_W := []
set_option maxRecDepth 20000 in
theorem m_X11_isTime {X : Ctx} (C : Cok X cX11_isTime 2 RX11 (rmL 1) Fz0) {pl : Pool} {p0 : Int32} {p1 : Int32} {post : Int32 → Prop} (hret : ∀ (r : Int32) (pc : Nat) (lo : List (Option Value)), b01 r → post r → decode cX11_isTime pc = .ok (.ireturn, 1) → AW X 2 0 0 (w_X11_isTime (cxG X)) pl pc lo [.int r]) (hw : wp_X11_isTime p0 p1 post) : AW X 2 0 0 (w_X11_isTime (cxG X)) pl 0 [some (.int p0), some (.int p1)] [] := by
  replace hw : wp_X11_isDay p0 (fun r1 => (r1 = 0 → (post 0)) ∧ (¬ r1 = 0 → (wp_X11_isMinute p1 (fun r8 => (r8 = 0 → (post 0)) ∧ (¬ r8 = 0 → (post 1)))))) := hw
  refine a_iload_n (pc := 0) (i := 0) C dX11_isTime_0 rfl rfl ?_
  refine a_callSi (pc := 1) (As := [.int p0]) (st := []) (ws' := (fun _ => (w_X11_isTime (cxG X)))) C (c_X11_isDay hw) dX11_isTime_1 mth_X11_isDay tml_X11_161 (fun _ _ h => trivial) Fz0_ok (rml (by decide) (by decide)) (Nat.le_of_ble_eq_true rfl) rfl rfl [] [] [] rfl rfl rfl rfl rfl rfl (fun _ => rfl) rfl (fun _ => rfl) (fun r1 u hw => ?_)
  obtain ⟨z_1, hw⟩ := hw
  show AW X 2 0 0 (w_X11_isTime (cxG X)) pl 4 [some (.int p0), some (.int p1)] [.int r1]
  refine a_if_eq (pc := 4) (tgt := 18) C dX11_isTime_4 (by decide) (fun c_4 => ?_) (fun c_4 => ?_)
  · replace hw := hw.1 c_4
    refine a_iconst (pc := 18) C dX11_isTime_18 kc_0 ?_
    exact hret _ _ _ (Or.inl rfl) hw dX11_isTime_19
  · replace hw := hw.2 c_4
    refine a_iload_n (pc := 7) (i := 1) C dX11_isTime_7 rfl rfl ?_
    refine a_callSi (pc := 8) (As := [.int p1]) (st := []) (ws' := (fun _ => (w_X11_isTime (cxG X)))) C (c_X11_isMinute hw) dX11_isTime_8 mth_X11_isMinute tml_X11_266 (fun _ _ h => trivial) Fz0_ok (rml (by decide) (by decide)) (Nat.le_of_ble_eq_true rfl) rfl rfl [] [] [] rfl rfl rfl rfl rfl rfl (fun _ => rfl) rfl (fun _ => rfl) (fun r8 u hw => ?_)
    obtain ⟨z_8, hw⟩ := hw
    show AW X 2 0 0 (w_X11_isTime (cxG X)) pl 11 [some (.int p0), some (.int p1)] [.int r8]
    refine a_if_eq (pc := 11) (tgt := 18) C dX11_isTime_11 (by decide) (fun c_11 => ?_) (fun c_11 => ?_)
    · replace hw := hw.1 c_11
      refine a_iconst (pc := 18) C dX11_isTime_18 kc_0 ?_
      exact hret _ _ _ (Or.inl rfl) hw dX11_isTime_19
    · replace hw := hw.2 c_11
      refine a_iconst (pc := 14) C dX11_isTime_14 kc_1 ?_
      refine a_goto (pc := 15) (tgt := 19) C dX11_isTime_15 (by decide) ?_
      exact hret _ _ _ (Or.inr rfl) hw dX11_isTime_19
theorem c_X11_isTime {l : Launch} {g : GG} {pl : Pool} {p0 : Int32} {p1 : Int32} {post : Int32 → Prop} (hw : wp_X11_isTime p0 p1 post) : MI l yX11_isTime cX11_isTime 2 (some .boolean) (rmL 1) g Fz0 [.int p0, .int p1] (w_X11_isTime g) pl (fun r (_ : Unit) => b01 r ∧ post r) (fun _ => (w_X11_isTime g)) (fun _ => pl) 0 0 := by
  refine mi_b01 ?_
  refine met_z (own := RX11) rfl rfl (Nat.le_of_ble_eq_true rfl) (fun X hg hl C hini hret => ?_)
  subst hg
  subst hl
  exact m_X11_isTime C (fun r pc lo z hp hd => hret r () pc lo (b01_nar z) hp hd) hw
abbrev w_X11_row (g : GG) : va_W := []
set_option maxRecDepth 20000 in
theorem m_X11_row {X : Ctx} (C : Cok X cX11_row 2 RX11 (rmL 0) Fz0) {pl : Pool} {p0 : Int32} {p1 : Int32} {post : Int32 → Prop} (hret : ∀ (r : Int32) (pc : Nat) (lo : List (Option Value)), post r → decode cX11_row pc = .ok (.ireturn, 1) → AW X 2 0 0 (w_X11_row (cxG X)) pl pc lo [.int r]) (hw : wp_X11_row p0 p1 post) : AW X 2 0 0 (w_X11_row (cxG X)) pl 0 [some (.int p0), some (.int p1)] [] := by
  refine a_iload_n (pc := 0) (i := 0) C dX11_row_0 rfl rfl ?_
  refine a_bipush (pc := 1) C dX11_row_1 kb_120 ?_
  refine a_imul (pc := 3) C dX11_row_3 ?_
  refine a_iload_n (pc := 4) (i := 1) C dX11_row_4 rfl rfl ?_
  refine a_iadd (pc := 5) C dX11_row_5 ?_
  exact hret _ _ _ hw dX11_row_6
theorem c_X11_row {l : Launch} {g : GG} {pl : Pool} {p0 : Int32} {p1 : Int32} {post : Int32 → Prop} (hw : wp_X11_row p0 p1 post) : MI l yX11_row cX11_row 2 (some .int) (rmL 0) g Fz0 [.int p0, .int p1] (w_X11_row g) pl (fun r (_ : Unit) => post r) (fun _ => (w_X11_row g)) (fun _ => pl) 0 0 := by
  refine met_i (own := RX11) rfl rfl (Nat.le_of_ble_eq_true rfl) (fun X hg hl C hini hret => ?_)
  subst hg
  subst hl
  exact m_X11_row C (fun r pc lo hp hd => hret r () pc lo hp hd) hw
abbrev w_X11_away (g : GG) : va_W := []
set_option maxRecDepth 20000 in
theorem m_X11_away {X : Ctx} {ka : KA} (C : Cok X cX11_away 5 RX11 (rmL 1) (FzC ka)) {pl : Pool} {p0 : Int32} {p1 : Int32} {p2 : Int32} {post : Int32 → Prop} (hret : ∀ (r : Int32) (pc : Nat) (lo : List (Option Value)), post r → decode cX11_away pc = .ok (.ireturn, 1) → AW X 5 0 0 (w_X11_away (cxG X)) pl pc lo [.int r]) (hw : wp_X11_away p0 p1 p2 post) : AW X 5 0 0 (w_X11_away (cxG X)) pl 0 [some (.int p0), some (.int p1), some (.int p2), none, none] [] := by
  replace hw : wp_X11_isSquare p0 (fun r1 => (r1 = 0 → (post (-1))) ∧ (¬ r1 = 0 → ((p1 < 0 → (post (-1))) ∧ (¬ p1 < 0 → ((p1 < 8 → (vp_in p1 8 ∧ (∀ x31 : Int32, x31 = ((jrem p0 10) + ((eastF (Int32.toNatClampNeg p1)) * p2)) → (vp_in p1 8 ∧ (∀ x44 : Int32, x44 = ((p0 / 10) + ((southF (Int32.toNatClampNeg p1)) * p2)) → ((x31 < 0 → (post (-1))) ∧ (¬ x31 < 0 → ((10 ≤ x31 → (post (-1))) ∧ (¬ 10 ≤ x31 → ((x44 < 0 → (post (-1))) ∧ (¬ x44 < 0 → ((x44 < 10 → (post ((x44 * 10) + x31))) ∧ (¬ x44 < 10 → (post (-1))))))))))))))) ∧ (¬ p1 < 8 → (post (-1)))))))) := hw
  refine a_iload_n (pc := 0) (i := 0) C dX11_away_0 rfl rfl ?_
  refine a_callSi (pc := 1) (As := [.int p0]) (st := []) (ws' := (fun _ => (w_X11_away (cxG X)))) C (c_X11_isSquare hw) dX11_away_1 mth_X11_isSquare tml_X11_92 (fun _ _ h => trivial) Fz0_ok (rml (by decide) (by decide)) (Nat.le_of_ble_eq_true rfl) rfl rfl [] [] [] rfl rfl rfl rfl rfl rfl (fun _ => rfl) rfl (fun _ => rfl) (fun r1 u hw => ?_)
  obtain ⟨z_1, hw⟩ := hw
  show AW X 5 0 0 (w_X11_away (cxG X)) pl 4 [some (.int p0), some (.int p1), some (.int p2), none, none] [.int r1]
  refine a_if_eq (pc := 4) (tgt := 17) C dX11_away_4 (by decide) (fun c_4 => ?_) (fun c_4 => ?_)
  · replace hw := hw.1 c_4
    refine a_iconst (pc := 17) C dX11_away_17 kc_m1 ?_
    exact hret _ _ _ hw dX11_away_18
  · replace hw := hw.2 c_4
    refine a_iload_n (pc := 7) (i := 1) C dX11_away_7 rfl rfl ?_
    refine a_if_lt (pc := 8) (tgt := 17) C dX11_away_8 (by decide) (fun c_8 => ?_) (fun c_8 => ?_)
    · replace hw := hw.1 c_8
      refine a_iconst (pc := 17) C dX11_away_17 kc_m1 ?_
      exact hret _ _ _ hw dX11_away_18
    · replace hw := hw.2 c_8
      refine a_iload_n (pc := 11) (i := 1) C dX11_away_11 rfl rfl ?_
      refine a_bipush (pc := 12) C dX11_away_12 kb_8 ?_
      refine a_icmp_lt (pc := 14) (tgt := 19) C dX11_away_14 (by decide) (fun c_14 => ?_) (fun c_14 => ?_)
      · replace hw := hw.1 c_14
        refine a_iload_n (pc := 19) (i := 0) C dX11_away_19 rfl rfl ?_
        refine a_bipush (pc := 20) C dX11_away_20 kb_10 ?_
        refine a_jrem (pc := 22) C dX11_away_22 (by decide) ?_
        obtain ⟨i_23, hw⟩ := hw
        refine a_stat (pc := 23) (i := 1) C (fun _ _ h => h.2.1) tfl_X11_354 dX11_away_23 dX11_away_26 rfl rfl dX11_away_27 i_23 ?_
        refine a_iload_n (pc := 28) (i := 2) C dX11_away_28 rfl rfl ?_
        refine a_imul (pc := 29) C dX11_away_29 ?_
        refine a_iadd (pc := 30) C dX11_away_30 ?_
        refine a_topi (fun x31 e_x31 => ?_)
        replace hw := hw x31 e_x31
        refine s_istore_n (pc := 31) (i := 3) (lo' := [some (.int p0), some (.int p1), some (.int p2), some (.int x31), none]) C dX11_away_31 rfl (by decide) rfl rfl ?_
        refine a_iload_n (pc := 32) (i := 0) C dX11_away_32 rfl rfl ?_
        refine a_bipush (pc := 33) C dX11_away_33 kb_10 ?_
        refine a_idiv (pc := 35) C dX11_away_35 (by decide) ?_
        obtain ⟨i_36, hw⟩ := hw
        refine a_stat (pc := 36) (i := 1) C (fun _ _ h => h.2.2.1) tfl_X11_357 dX11_away_36 dX11_away_39 rfl rfl dX11_away_40 i_36 ?_
        refine a_iload_n (pc := 41) (i := 2) C dX11_away_41 rfl rfl ?_
        refine a_imul (pc := 42) C dX11_away_42 ?_
        refine a_iadd (pc := 43) C dX11_away_43 ?_
        refine a_topi (fun x44 e_x44 => ?_)
        replace hw := hw x44 e_x44
        refine s_istore (pc := 44) (i := 4) (lo' := [some (.int p0), some (.int p1), some (.int p2), some (.int x31), some (.int x44)]) C dX11_away_44 (by decide) rfl rfl ?_
        refine a_iload_n (pc := 46) (i := 3) C dX11_away_46 rfl rfl ?_
        refine a_if_lt (pc := 47) (tgt := 68) C dX11_away_47 (by decide) (fun c_47 => ?_) (fun c_47 => ?_)
        · replace hw := hw.1 c_47
          refine a_iconst (pc := 68) C dX11_away_68 kc_m1 ?_
          refine a_goto (pc := 69) (tgt := 79) C dX11_away_69 (by decide) ?_
          exact hret _ _ _ hw dX11_away_79
        · replace hw := hw.2 c_47
          refine a_iload_n (pc := 50) (i := 3) C dX11_away_50 rfl rfl ?_
          refine a_bipush (pc := 51) C dX11_away_51 kb_10 ?_
          refine a_icmp_ge (pc := 53) (tgt := 68) C dX11_away_53 (by decide) (fun c_53 => ?_) (fun c_53 => ?_)
          · replace hw := hw.1 c_53
            refine a_iconst (pc := 68) C dX11_away_68 kc_m1 ?_
            refine a_goto (pc := 69) (tgt := 79) C dX11_away_69 (by decide) ?_
            exact hret _ _ _ hw dX11_away_79
          · replace hw := hw.2 c_53
            refine a_iload (pc := 56) (i := 4) C dX11_away_56 rfl ?_
            refine a_if_lt (pc := 58) (tgt := 68) C dX11_away_58 (by decide) (fun c_58 => ?_) (fun c_58 => ?_)
            · replace hw := hw.1 c_58
              refine a_iconst (pc := 68) C dX11_away_68 kc_m1 ?_
              refine a_goto (pc := 69) (tgt := 79) C dX11_away_69 (by decide) ?_
              exact hret _ _ _ hw dX11_away_79
            · replace hw := hw.2 c_58
              refine a_iload (pc := 61) (i := 4) C dX11_away_61 rfl ?_
              refine a_bipush (pc := 63) C dX11_away_63 kb_10 ?_
              refine a_icmp_lt (pc := 65) (tgt := 72) C dX11_away_65 (by decide) (fun c_65 => ?_) (fun c_65 => ?_)
              · replace hw := hw.1 c_65
                refine a_iload (pc := 72) (i := 4) C dX11_away_72 rfl ?_
                refine a_bipush (pc := 74) C dX11_away_74 kb_10 ?_
                refine a_imul (pc := 76) C dX11_away_76 ?_
                refine a_iload_n (pc := 77) (i := 3) C dX11_away_77 rfl rfl ?_
                refine a_iadd (pc := 78) C dX11_away_78 ?_
                exact hret _ _ _ hw dX11_away_79
              · replace hw := hw.2 c_65
                refine a_iconst (pc := 68) C dX11_away_68 kc_m1 ?_
                refine a_goto (pc := 69) (tgt := 79) C dX11_away_69 (by decide) ?_
                exact hret _ _ _ hw dX11_away_79
      · replace hw := hw.2 c_14
        refine a_iconst (pc := 17) C dX11_away_17 kc_m1 ?_
        exact hret _ _ _ hw dX11_away_18
theorem c_X11_away {ka : KA} {l : Launch} {g : GG} {pl : Pool} {p0 : Int32} {p1 : Int32} {p2 : Int32} {post : Int32 → Prop} (hw : wp_X11_away p0 p1 p2 post) : MI l yX11_away cX11_away 5 (some .int) (rmL 1) g (FzC ka) [.int p0, .int p1, .int p2] (w_X11_away g) pl (fun r (_ : Unit) => post r) (fun _ => (w_X11_away g)) (fun _ => pl) 0 0 := by
  refine met_i (own := RX11) rfl rfl (Nat.le_of_ble_eq_true rfl) (fun X hg hl C hini hret => ?_)
  subst hg
  subst hl
  exact m_X11_away C (fun r pc lo hp hd => hret r () pc lo hp hd) hw
