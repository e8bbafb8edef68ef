abbrev w_X8_put (g : GG) (A_t A_t_kinds A_t_heights : Nat) (U_t_awnings U_t_shuts U_t_water U_t_suns U_t_walkers U_t_places U_t_procession U_t_told U_t_awningLines U_t_shutLines U_t_waterLines U_t_sunLines : Value) (t_kinds : Nat → Int32) (t_heights : Nat → Int32) : va_W := [(A_t, ob 8 [.ref A_t_kinds, .ref A_t_heights, U_t_awnings, U_t_shuts, U_t_water, U_t_suns, U_t_walkers, U_t_places, U_t_procession, U_t_told, U_t_awningLines, U_t_shutLines, U_t_waterLines, U_t_sunLines]), (A_t_kinds, aI g 100 t_kinds), (A_t_heights, aI g 100 t_heights)]
def wp_X8_put (t_kinds : Nat → Int32) (t_heights : Nat → Int32) (p1 : Int32) (p2 : Int32) (p3 : Int32) (post : (Nat → Int32) → (Nat → Int32) → Prop) : Prop :=
  wp_X11_isSquare p1 (fun r1 => (r1 = 0 → (post t_kinds t_heights)) ∧ (¬ r1 = 0 → (vp_in p1 100 ∧ (∀ t_kinds_13 : Nat → Int32, t_kinds_13 = upd t_kinds (Int32.toNatClampNeg p1) p2 → (vp_in p1 100 ∧ (∀ t_heights_20 : Nat → Int32, t_heights_20 = upd t_heights (Int32.toNatClampNeg p1) p3 → (post t_kinds_13 t_heights_20)))))))
set_option maxRecDepth 20000 in
theorem m_X8_put {X : Ctx} (C : Cok X cX8_put 4 RX8 (rmL 1) FzC) {pl : Pool} {A_t A_t_kinds A_t_heights : Nat} {U_t_awnings U_t_shuts U_t_water U_t_suns U_t_walkers U_t_places U_t_procession U_t_told U_t_awningLines U_t_shutLines U_t_waterLines U_t_sunLines : Value} {t_kinds : Nat → Int32} {t_heights : Nat → Int32} {p1 : Int32} {p2 : Int32} {p3 : Int32} {post : (Nat → Int32) → (Nat → Int32) → Prop} (hret : ∀ (w0 : Nat → Int32) (w1 : Nat → Int32) (pc : Nat) (lo : List (Option Value)), post w0 w1 → decode cX8_put pc = .ok (.return_, 1) → AW X 4 0 0 (w_X8_put (cxG X) A_t A_t_kinds A_t_heights U_t_awnings U_t_shuts U_t_water U_t_suns U_t_walkers U_t_places U_t_procession U_t_told U_t_awningLines U_t_shutLines U_t_waterLines U_t_sunLines w0 w1) pl pc lo []) (hw : wp_X8_put t_kinds t_heights p1 p2 p3 post) : AW X 4 0 0 (w_X8_put (cxG X) A_t A_t_kinds A_t_heights U_t_awnings U_t_shuts U_t_water U_t_suns U_t_walkers U_t_places U_t_procession U_t_told U_t_awningLines U_t_shutLines U_t_waterLines U_t_sunLines t_kinds t_heights) pl 0 [some (.ref A_t), some (.int p1), some (.int p2), some (.int p3)] [] := by
  replace hw : wp_X11_isSquare p1 (fun r1 => (r1 = 0 → (post t_kinds t_heights)) ∧ (¬ r1 = 0 → (vp_in p1 100 ∧ (∀ t_kinds_13 : Nat → Int32, t_kinds_13 = upd t_kinds (Int32.toNatClampNeg p1) p2 → (vp_in p1 100 ∧ (∀ t_heights_20 : Nat → Int32, t_heights_20 = upd t_heights (Int32.toNatClampNeg p1) p3 → (post t_kinds_13 t_heights_20))))))) := hw
  refine a_iload_n (pc := 0) (i := 1) C dX8_put_0 rfl rfl ?_
  refine a_callSNi (pc := 1) (As := [.int p1]) (st := []) (ws' := (fun _ => (w_X8_put (cxG X) A_t A_t_kinds A_t_heights U_t_awnings U_t_shuts U_t_water U_t_suns U_t_walkers U_t_places U_t_procession U_t_told U_t_awningLines U_t_shutLines U_t_waterLines U_t_sunLines t_kinds t_heights))) C (c_X11_isSquare hw) dX8_put_1 mth_X11_isSquare nl_X8_94 (fun _ _ h => trivial) Fz0_ok (rml (by decide) (by decide)) (Nat.le_of_ble_eq_true rfl) rfl rfl [] [0, 1, 2] [0, 1, 2] rfl rfl rfl rfl rfl rfl (fun _ => rfl) rfl (fun _ => rfl) (fun r1 u hw => ?_)
  obtain ⟨z_1, hw⟩ := hw
  show AW X 4 0 0 (w_X8_put (cxG X) A_t A_t_kinds A_t_heights U_t_awnings U_t_shuts U_t_water U_t_suns U_t_walkers U_t_places U_t_procession U_t_told U_t_awningLines U_t_shutLines U_t_waterLines U_t_sunLines t_kinds t_heights) pl 4 [some (.ref A_t), some (.int p1), some (.int p2), some (.int p3)] [.int r1]
  refine a_if_eq (pc := 4) (tgt := 21) C dX8_put_4 (by decide) (fun c_4 => ?_) (fun c_4 => ?_)
  · replace hw := hw.1 c_4
    exact hret _ _ _ _ hw dX8_put_21
  · replace hw := hw.2 c_4
    refine a_aload_n (pc := 7) (i := 0) C dX8_put_7 rfl rfl ?_
    refine a_get (pc := 8) C fl_X8_9 dX8_put_8 0 rfl rfl ?_
    refine a_iload_n (pc := 11) (i := 1) C dX8_put_11 rfl rfl ?_
    refine a_iload_n (pc := 12) (i := 2) C dX8_put_12 rfl rfl ?_
    obtain ⟨i_13, hw⟩ := hw
    refine a_iastW (pc := 13) C (fun h => (w_X8_put (cxG X) A_t A_t_kinds A_t_heights U_t_awnings U_t_shuts U_t_water U_t_suns U_t_walkers U_t_places U_t_procession U_t_told U_t_awningLines U_t_shutLines U_t_waterLines U_t_sunLines h t_heights)) dX8_put_13 1 rfl i_13 (fun _ => rfl) (fun t_kinds_13 e_t_kinds_13 => ?_)
    replace hw := hw t_kinds_13 e_t_kinds_13
    refine a_aload_n (pc := 14) (i := 0) C dX8_put_14 rfl rfl ?_
    refine a_get (pc := 15) C fl_X8_15 dX8_put_15 0 rfl rfl ?_
    refine a_iload_n (pc := 18) (i := 1) C dX8_put_18 rfl rfl ?_
    refine a_iload_n (pc := 19) (i := 3) C dX8_put_19 rfl rfl ?_
    obtain ⟨i_20, hw⟩ := hw
    refine a_iastW (pc := 20) C (fun h => (w_X8_put (cxG X) A_t A_t_kinds A_t_heights U_t_awnings U_t_shuts U_t_water U_t_suns U_t_walkers U_t_places U_t_procession U_t_told U_t_awningLines U_t_shutLines U_t_waterLines U_t_sunLines t_kinds_13 h)) dX8_put_20 2 rfl i_20 (fun _ => rfl) (fun t_heights_20 e_t_heights_20 => ?_)
    replace hw := hw t_heights_20 e_t_heights_20
    exact hret _ _ _ _ hw dX8_put_21
theorem c_X8_put {l : Launch} {g : GG} {pl : Pool} (A_t A_t_kinds A_t_heights : Nat) (U_t_awnings U_t_shuts U_t_water U_t_suns U_t_walkers U_t_places U_t_procession U_t_told U_t_awningLines U_t_shutLines U_t_waterLines U_t_sunLines : Value) {t_kinds : Nat → Int32} {t_heights : Nat → Int32} {p1 : Int32} {p2 : Int32} {p3 : Int32} {post : (Nat → Int32) → (Nat → Int32) → Prop} (hw : wp_X8_put t_kinds t_heights p1 p2 p3 post) : MV l yX8_put cX8_put 4 (none : Option Jvm.ClassFile.FieldType) (rmL 1) g FzC [.ref A_t, .int p1, .int p2, .int p3] (w_X8_put g A_t A_t_kinds A_t_heights U_t_awnings U_t_shuts U_t_water U_t_suns U_t_walkers U_t_places U_t_procession U_t_told U_t_awningLines U_t_shutLines U_t_waterLines U_t_sunLines t_kinds t_heights) pl (fun (u : (Nat → Int32) × (Nat → Int32)) => post u.1 u.2) (fun u => (w_X8_put g A_t A_t_kinds A_t_heights U_t_awnings U_t_shuts U_t_water U_t_suns U_t_walkers U_t_places U_t_procession U_t_told U_t_awningLines U_t_shutLines U_t_waterLines U_t_sunLines u.1 u.2)) (fun _ => pl) 0 0 := by
  refine met_v (own := RX8) rfl rfl (Nat.le_of_ble_eq_true rfl) (fun X hg hl C hini hret => ?_)
  subst hg
  subst hl
  exact m_X8_put C (fun w0 w1 pc lo hp hd => hret (w0, w1) pc lo hp hd) hw
abbrev w_X8_isOpen (g : GG) (A_t A_t_kinds : Nat) (U_t_heights U_t_awnings U_t_shuts U_t_water U_t_suns U_t_walkers U_t_places U_t_procession U_t_told U_t_awningLines U_t_shutLines U_t_waterLines U_t_sunLines : Value) (t_kinds : Nat → Int32) : va_W := [(A_t, ob 8 [.ref A_t_kinds, U_t_heights, U_t_awnings, U_t_shuts, U_t_water, U_t_suns, U_t_walkers, U_t_places, U_t_procession, U_t_told, U_t_awningLines, U_t_shutLines, U_t_waterLines, U_t_sunLines]), (A_t_kinds, aI g 100 t_kinds)]
def wp_X8_isOpen (t_kinds : Nat → Int32) (p1 : Int32) (post : Int32 → Prop) : Prop :=
  wp_X11_isSquare p1 (fun r1 => (r1 = 0 → (post 0)) ∧ (¬ r1 = 0 → (vp_in p1 100 ∧ (((t_kinds (Int32.toNatClampNeg p1)) = 1 → (post 0)) ∧ (¬ (t_kinds (Int32.toNatClampNeg p1)) = 1 → (post 1))))))
set_option maxRecDepth 20000 in
theorem m_X8_isOpen {X : Ctx} (C : Cok X cX8_isOpen 2 RX8 (rmL 1) FzC) {pl : Pool} {A_t A_t_kinds : Nat} {U_t_heights U_t_awnings U_t_shuts U_t_water U_t_suns U_t_walkers U_t_places U_t_procession U_t_told U_t_awningLines U_t_shutLines U_t_waterLines U_t_sunLines : Value} {t_kinds : Nat → Int32} {p1 : Int32} {post : Int32 → Prop} (hret : ∀ (r : Int32) (pc : Nat) (lo : List (Option Value)), b01 r → post r → decode cX8_isOpen pc = .ok (.ireturn, 1) → AW X 2 0 0 (w_X8_isOpen (cxG X) A_t A_t_kinds U_t_heights U_t_awnings U_t_shuts U_t_water U_t_suns U_t_walkers U_t_places U_t_procession U_t_told U_t_awningLines U_t_shutLines U_t_waterLines U_t_sunLines t_kinds) pl pc lo [.int r]) (hw : wp_X8_isOpen t_kinds p1 post) : AW X 2 0 0 (w_X8_isOpen (cxG X) A_t A_t_kinds U_t_heights U_t_awnings U_t_shuts U_t_water U_t_suns U_t_walkers U_t_places U_t_procession U_t_told U_t_awningLines U_t_shutLines U_t_waterLines U_t_sunLines t_kinds) pl 0 [some (.ref A_t), some (.int p1)] [] := by
  replace hw : wp_X11_isSquare p1 (fun r1 => (r1 = 0 → (post 0)) ∧ (¬ r1 = 0 → (vp_in p1 100 ∧ (((t_kinds (Int32.toNatClampNeg p1)) = 1 → (post 0)) ∧ (¬ (t_kinds (Int32.toNatClampNeg p1)) = 1 → (post 1)))))) := hw
  refine a_iload_n (pc := 0) (i := 1) C dX8_isOpen_0 rfl rfl ?_
  refine a_callSNi (pc := 1) (As := [.int p1]) (st := []) (ws' := (fun _ => (w_X8_isOpen (cxG X) A_t A_t_kinds U_t_heights U_t_awnings U_t_shuts U_t_water U_t_suns U_t_walkers U_t_places U_t_procession U_t_told U_t_awningLines U_t_shutLines U_t_waterLines U_t_sunLines t_kinds))) C (c_X11_isSquare hw) dX8_isOpen_1 mth_X11_isSquare nl_X8_94 (fun _ _ h => trivial) Fz0_ok (rml (by decide) (by decide)) (Nat.le_of_ble_eq_true rfl) rfl rfl [] [0, 1] [0, 1] rfl rfl rfl rfl rfl rfl (fun _ => rfl) rfl (fun _ => rfl) (fun r1 u hw => ?_)
  obtain ⟨z_1, hw⟩ := hw
  show AW X 2 0 0 (w_X8_isOpen (cxG X) A_t A_t_kinds U_t_heights U_t_awnings U_t_shuts U_t_water U_t_suns U_t_walkers U_t_places U_t_procession U_t_told U_t_awningLines U_t_shutLines U_t_waterLines U_t_sunLines t_kinds) pl 4 [some (.ref A_t), some (.int p1)] [.int r1]
  refine a_if_eq (pc := 4) (tgt := 21) C dX8_isOpen_4 (by decide) (fun c_4 => ?_) (fun c_4 => ?_)
  · replace hw := hw.1 c_4
    refine a_iconst (pc := 21) C dX8_isOpen_21 kc_0 ?_
    exact hret _ _ _ (Or.inl rfl) hw dX8_isOpen_22
  · replace hw := hw.2 c_4
    refine a_aload_n (pc := 7) (i := 0) C dX8_isOpen_7 rfl rfl ?_
    refine a_get (pc := 8) C fl_X8_9 dX8_isOpen_8 0 rfl rfl ?_
    refine a_iload_n (pc := 11) (i := 1) C dX8_isOpen_11 rfl rfl ?_
    obtain ⟨i_12, hw⟩ := hw
    refine a_iald (pc := 12) C dX8_isOpen_12 1 rfl i_12 ?_
    refine a_iconst (pc := 13) C dX8_isOpen_13 kc_1 ?_
    refine a_icmp_eq (pc := 14) (tgt := 21) C dX8_isOpen_14 (by decide) (fun c_14 => ?_) (fun c_14 => ?_)
    · replace hw := hw.1 c_14
      refine a_iconst (pc := 21) C dX8_isOpen_21 kc_0 ?_
      exact hret _ _ _ (Or.inl rfl) hw dX8_isOpen_22
    · replace hw := hw.2 c_14
      refine a_iconst (pc := 17) C dX8_isOpen_17 kc_1 ?_
      refine a_goto (pc := 18) (tgt := 22) C dX8_isOpen_18 (by decide) ?_
      exact hret _ _ _ (Or.inr rfl) hw dX8_isOpen_22
theorem c_X8_isOpen {l : Launch} {g : GG} {pl : Pool} (A_t A_t_kinds : Nat) (U_t_heights U_t_awnings U_t_shuts U_t_water U_t_suns U_t_walkers U_t_places U_t_procession U_t_told U_t_awningLines U_t_shutLines U_t_waterLines U_t_sunLines : Value) {t_kinds : Nat → Int32} {p1 : Int32} {post : Int32 → Prop} (hw : wp_X8_isOpen t_kinds p1 post) : MI l yX8_isOpen cX8_isOpen 2 (some .boolean) (rmL 1) g FzC [.ref A_t, .int p1] (w_X8_isOpen g A_t A_t_kinds U_t_heights U_t_awnings U_t_shuts U_t_water U_t_suns U_t_walkers U_t_places U_t_procession U_t_told U_t_awningLines U_t_shutLines U_t_waterLines U_t_sunLines t_kinds) pl (fun r (_ : Unit) => b01 r ∧ post r) (fun _ => (w_X8_isOpen g A_t A_t_kinds U_t_heights U_t_awnings U_t_shuts U_t_water U_t_suns U_t_walkers U_t_places U_t_procession U_t_told U_t_awningLines U_t_shutLines U_t_waterLines U_t_sunLines t_kinds)) (fun _ => pl) 0 0 := by
  refine mi_b01 ?_
  refine met_z (own := RX8) rfl rfl (Nat.le_of_ble_eq_true rfl) (fun X hg hl C hini hret => ?_)
  subst hg
  subst hl
  exact m_X8_isOpen C (fun r pc lo z hp hd => hret r () pc lo (b01_nar z) hp hd) hw
abbrev w_X8_isBare (g : GG) (A_t A_t_kinds : Nat) (U_t_heights U_t_awnings U_t_shuts U_t_water U_t_suns U_t_walkers U_t_places U_t_procession U_t_told U_t_awningLines U_t_shutLines U_t_waterLines U_t_sunLines : Value) (t_kinds : Nat → Int32) : va_W := [(A_t, ob 8 [.ref A_t_kinds, U_t_heights, U_t_awnings, U_t_shuts, U_t_water, U_t_suns, U_t_walkers, U_t_places, U_t_procession, U_t_told, U_t_awningLines, U_t_shutLines, U_t_waterLines, U_t_sunLines]), (A_t_kinds, aI g 100 t_kinds)]
def wp_X8_isBare (t_kinds : Nat → Int32) (p1 : Int32) (post : Int32 → Prop) : Prop :=
  wp_X11_isSquare p1 (fun r1 => (r1 = 0 → (post 0)) ∧ (¬ r1 = 0 → (vp_in p1 100 ∧ ((¬ (t_kinds (Int32.toNatClampNeg p1)) = 0 → (post 0)) ∧ ((t_kinds (Int32.toNatClampNeg p1)) = 0 → (post 1))))))
set_option maxRecDepth 20000 in
theorem m_X8_isBare {X : Ctx} (C : Cok X cX8_isBare 2 RX8 (rmL 1) FzC) {pl : Pool} {A_t A_t_kinds : Nat} {U_t_heights U_t_awnings U_t_shuts U_t_water U_t_suns U_t_walkers U_t_places U_t_procession U_t_told U_t_awningLines U_t_shutLines U_t_waterLines U_t_sunLines : Value} {t_kinds : Nat → Int32} {p1 : Int32} {post : Int32 → Prop} (hret : ∀ (r : Int32) (pc : Nat) (lo : List (Option Value)), b01 r → post r → decode cX8_isBare pc = .ok (.ireturn, 1) → AW X 2 0 0 (w_X8_isBare (cxG X) A_t A_t_kinds U_t_heights U_t_awnings U_t_shuts U_t_water U_t_suns U_t_walkers U_t_places U_t_procession U_t_told U_t_awningLines U_t_shutLines U_t_waterLines U_t_sunLines t_kinds) pl pc lo [.int r]) (hw : wp_X8_isBare t_kinds p1 post) : AW X 2 0 0 (w_X8_isBare (cxG X) A_t A_t_kinds U_t_heights U_t_awnings U_t_shuts U_t_water U_t_suns U_t_walkers U_t_places U_t_procession U_t_told U_t_awningLines U_t_shutLines U_t_waterLines U_t_sunLines t_kinds) pl 0 [some (.ref A_t), some (.int p1)] [] := by
  replace hw : wp_X11_isSquare p1 (fun r1 => (r1 = 0 → (post 0)) ∧ (¬ r1 = 0 → (vp_in p1 100 ∧ ((¬ (t_kinds (Int32.toNatClampNeg p1)) = 0 → (post 0)) ∧ ((t_kinds (Int32.toNatClampNeg p1)) = 0 → (post 1)))))) := hw
  refine a_iload_n (pc := 0) (i := 1) C dX8_isBare_0 rfl rfl ?_
  refine a_callSNi (pc := 1) (As := [.int p1]) (st := []) (ws' := (fun _ => (w_X8_isBare (cxG X) A_t A_t_kinds U_t_heights U_t_awnings U_t_shuts U_t_water U_t_suns U_t_walkers U_t_places U_t_procession U_t_told U_t_awningLines U_t_shutLines U_t_waterLines U_t_sunLines t_kinds))) C (c_X11_isSquare hw) dX8_isBare_1 mth_X11_isSquare nl_X8_94 (fun _ _ h => trivial) Fz0_ok (rml (by decide) (by decide)) (Nat.le_of_ble_eq_true rfl) rfl rfl [] [0, 1] [0, 1] rfl rfl rfl rfl rfl rfl (fun _ => rfl) rfl (fun _ => rfl) (fun r1 u hw => ?_)
  obtain ⟨z_1, hw⟩ := hw
  show AW X 2 0 0 (w_X8_isBare (cxG X) A_t A_t_kinds U_t_heights U_t_awnings U_t_shuts U_t_water U_t_suns U_t_walkers U_t_places U_t_procession U_t_told U_t_awningLines U_t_shutLines U_t_waterLines U_t_sunLines t_kinds) pl 4 [some (.ref A_t), some (.int p1)] [.int r1]
  refine a_if_eq (pc := 4) (tgt := 20) C dX8_isBare_4 (by decide) (fun c_4 => ?_) (fun c_4 => ?_)
  · replace hw := hw.1 c_4
    refine a_iconst (pc := 20) C dX8_isBare_20 kc_0 ?_
    exact hret _ _ _ (Or.inl rfl) hw dX8_isBare_21
  · replace hw := hw.2 c_4
    refine a_aload_n (pc := 7) (i := 0) C dX8_isBare_7 rfl rfl ?_
    refine a_get (pc := 8) C fl_X8_9 dX8_isBare_8 0 rfl rfl ?_
    refine a_iload_n (pc := 11) (i := 1) C dX8_isBare_11 rfl rfl ?_
    obtain ⟨i_12, hw⟩ := hw
    refine a_iald (pc := 12) C dX8_isBare_12 1 rfl i_12 ?_
    refine a_if_ne (pc := 13) (tgt := 20) C dX8_isBare_13 (by decide) (fun c_13 => ?_) (fun c_13 => ?_)
    · replace hw := hw.1 c_13
      refine a_iconst (pc := 20) C dX8_isBare_20 kc_0 ?_
      exact hret _ _ _ (Or.inl rfl) hw dX8_isBare_21
    · replace hw := hw.2 c_13
      refine a_iconst (pc := 16) C dX8_isBare_16 kc_1 ?_
      refine a_goto (pc := 17) (tgt := 21) C dX8_isBare_17 (by decide) ?_
      exact hret _ _ _ (Or.inr rfl) hw dX8_isBare_21
theorem c_X8_isBare {l : Launch} {g : GG} {pl : Pool} (A_t A_t_kinds : Nat) (U_t_heights U_t_awnings U_t_shuts U_t_water U_t_suns U_t_walkers U_t_places U_t_procession U_t_told U_t_awningLines U_t_shutLines U_t_waterLines U_t_sunLines : Value) {t_kinds : Nat → Int32} {p1 : Int32} {post : Int32 → Prop} (hw : wp_X8_isBare t_kinds p1 post) : MI l yX8_isBare cX8_isBare 2 (some .boolean) (rmL 1) g FzC [.ref A_t, .int p1] (w_X8_isBare g A_t A_t_kinds U_t_heights U_t_awnings U_t_shuts U_t_water U_t_suns U_t_walkers U_t_places U_t_procession U_t_told U_t_awningLines U_t_shutLines U_t_waterLines U_t_sunLines t_kinds) pl (fun r (_ : Unit) => b01 r ∧ post r) (fun _ => (w_X8_isBare g A_t A_t_kinds U_t_heights U_t_awnings U_t_shuts U_t_water U_t_suns U_t_walkers U_t_places U_t_procession U_t_told U_t_awningLines U_t_shutLines U_t_waterLines U_t_sunLines t_kinds)) (fun _ => pl) 0 0 := by
  refine mi_b01 ?_
  refine met_z (own := RX8) rfl rfl (Nat.le_of_ble_eq_true rfl) (fun X hg hl C hini hret => ?_)
  subst hg
  subst hl
  exact m_X8_isBare C (fun r pc lo z hp hd => hret r () pc lo (b01_nar z) hp hd) hw
abbrev w_X8_howMany (g : GG) (A_t A_t_kinds : Nat) (U_t_heights U_t_awnings U_t_shuts U_t_water U_t_suns U_t_walkers U_t_places U_t_procession U_t_told U_t_awningLines U_t_shutLines U_t_waterLines U_t_sunLines : Value) (t_kinds : Nat → Int32) : va_W := [(A_t, ob 8 [.ref A_t_kinds, U_t_heights, U_t_awnings, U_t_shuts, U_t_water, U_t_suns, U_t_walkers, U_t_places, U_t_procession, U_t_told, U_t_awningLines, U_t_shutLines, U_t_waterLines, U_t_sunLines]), (A_t_kinds, aI g 100 t_kinds)]
def wp_X8_howMany_L4 (x_29 : Int32 → Prop) (t_kinds : Nat → Int32) (post : Int32 → Prop) (kb : Int32 × Int32 × Int32 → Prop) : Int32 × Int32 × Int32 → Prop := fun (l1, l2, l3) =>
  (100 ≤ l3 → (x_29 l2)) ∧ (¬ 100 ≤ l3 → (vp_in l3 100 ∧ ((¬ (t_kinds (Int32.toNatClampNeg l3)) = l1 → (∀ y23 : Int32, y23 = l3 + 1 → (kb (l1, l2, y23)))) ∧ ((t_kinds (Int32.toNatClampNeg l3)) = l1 → (∀ y20 : Int32, y20 = l2 + 1 → (∀ y23 : Int32, y23 = l3 + 1 → (kb (l1, y20, y23))))))))
set_option maxRecDepth 20000 in
theorem m_X8_howMany_L4 {X : Ctx} (C : Cok X cX8_howMany 4 RX8 (rmL 0) Fz0) {pl : Pool} {A_t A_t_kinds : Nat} {U_t_heights U_t_awnings U_t_shuts U_t_water U_t_suns U_t_walkers U_t_places U_t_procession U_t_told U_t_awningLines U_t_shutLines U_t_waterLines U_t_sunLines : Value} {t_kinds : Nat → Int32} {post : Int32 → Prop} (hret : ∀ (r : Int32) (pc : Nat) (lo : List (Option Value)), post r → decode cX8_howMany pc = .ok (.ireturn, 1) → AW X 4 0 0 (w_X8_howMany (cxG X) A_t A_t_kinds U_t_heights U_t_awnings U_t_shuts U_t_water U_t_suns U_t_walkers U_t_places U_t_procession U_t_told U_t_awningLines U_t_shutLines U_t_waterLines U_t_sunLines t_kinds) pl pc lo [.int r]) {x_29 : Int32 → Prop} (hx_29 : ∀ (l2 : Int32) , x_29 l2 → AW X 4 0 0 (w_X8_howMany (cxG X) A_t A_t_kinds U_t_heights U_t_awnings U_t_shuts U_t_water U_t_suns U_t_walkers U_t_places U_t_procession U_t_told U_t_awningLines U_t_shutLines U_t_waterLines U_t_sunLines t_kinds) pl 29 [none, none, some (.int l2), none] []) : ∀ (n4 : Nat) (l1 : Int32) (l2 : Int32) (l3 : Int32) , lp (wp_X8_howMany_L4 x_29 t_kinds post) n4 (l1, l2, l3) → AW X 4 0 0 (w_X8_howMany (cxG X) A_t A_t_kinds U_t_heights U_t_awnings U_t_shuts U_t_water U_t_suns U_t_walkers U_t_places U_t_procession U_t_told U_t_awningLines U_t_shutLines U_t_waterLines U_t_sunLines t_kinds) pl 4 [some (.ref A_t), some (.int l1), some (.int l2), some (.int l3)] [] := by
  intro n4
  induction n4 with
  | zero => exact fun _ _ _ hw => hw.elim
  | succ n4 hkb =>
    intro l1 l2 l3 hw
    replace hw : wp_X8_howMany_L4 x_29 t_kinds post (lp (wp_X8_howMany_L4 x_29 t_kinds post) n4) (l1, l2, l3) := hw
    generalize lp (wp_X8_howMany_L4 x_29 t_kinds post) n4 = kb at hw hkb
    refine a_iload_n (pc := 4) (i := 3) C dX8_howMany_4 rfl rfl ?_
    refine a_bipush (pc := 5) C dX8_howMany_5 kb_100 ?_
    refine a_icmp_ge (pc := 7) (tgt := 29) C dX8_howMany_7 (by decide) (fun c_7 => ?_) (fun c_7 => ?_)
    · replace hw := hw.1 c_7
      refine a_msk [false, false, true, false] rfl ?_
      exact hx_29 _ hw
    · replace hw := hw.2 c_7
      refine a_aload_n (pc := 10) (i := 0) C dX8_howMany_10 rfl rfl ?_
      refine a_get (pc := 11) C fl_X8_9 dX8_howMany_11 0 rfl rfl ?_
      refine a_iload_n (pc := 14) (i := 3) C dX8_howMany_14 rfl rfl ?_
      obtain ⟨i_15, hw⟩ := hw
      refine a_iald (pc := 15) C dX8_howMany_15 1 rfl i_15 ?_
      refine a_iload_n (pc := 16) (i := 1) C dX8_howMany_16 rfl rfl ?_
      refine a_icmp_ne (pc := 17) (tgt := 23) C dX8_howMany_17 (by decide) (fun c_17 => ?_) (fun c_17 => ?_)
      · replace hw := hw.1 c_17
        refine a_inc (pc := 23) (i := 3) C (fun y => [some (.ref A_t), some (.int l1), some (.int l2), some (.int y)]) dX8_howMany_23 rfl kc_1 (by decide) rfl (fun _ => rfl) (fun y23 e_y23 => ?_)
        replace hw := hw y23 e_y23
        refine a_goto (pc := 26) (tgt := 4) C dX8_howMany_26 (by decide) ?_
        exact hkb _ _ _ hw
      · replace hw := hw.2 c_17
        refine a_inc (pc := 20) (i := 2) C (fun y => [some (.ref A_t), some (.int l1), some (.int y), some (.int l3)]) dX8_howMany_20 rfl kc_1 (by decide) rfl (fun _ => rfl) (fun y20 e_y20 => ?_)
        replace hw := hw y20 e_y20
        refine a_inc (pc := 23) (i := 3) C (fun y => [some (.ref A_t), some (.int l1), some (.int y20), some (.int y)]) dX8_howMany_23 rfl kc_1 (by decide) rfl (fun _ => rfl) (fun y23 e_y23 => ?_)
        replace hw := hw y23 e_y23
        refine a_goto (pc := 26) (tgt := 4) C dX8_howMany_26 (by decide) ?_
        exact hkb _ _ _ hw
def wp_X8_howMany (t_kinds : Nat → Int32) (p1 : Int32) (post : Int32 → Prop) : Prop :=
  ∃ n, lp (wp_X8_howMany_L4 (fun l2 => post l2) t_kinds post) n (p1, 0, 0)
set_option maxRecDepth 20000 in
theorem m_X8_howMany {X : Ctx} (C : Cok X cX8_howMany 4 RX8 (rmL 0) Fz0) {pl : Pool} {A_t A_t_kinds : Nat} {U_t_heights U_t_awnings U_t_shuts U_t_water U_t_suns U_t_walkers U_t_places U_t_procession U_t_told U_t_awningLines U_t_shutLines U_t_waterLines U_t_sunLines : Value} {t_kinds : Nat → Int32} {p1 : Int32} {post : Int32 → Prop} (hret : ∀ (r : Int32) (pc : Nat) (lo : List (Option Value)), post r → decode cX8_howMany pc = .ok (.ireturn, 1) → AW X 4 0 0 (w_X8_howMany (cxG X) A_t A_t_kinds U_t_heights U_t_awnings U_t_shuts U_t_water U_t_suns U_t_walkers U_t_places U_t_procession U_t_told U_t_awningLines U_t_shutLines U_t_waterLines U_t_sunLines t_kinds) pl pc lo [.int r]) (hw : wp_X8_howMany t_kinds p1 post) : AW X 4 0 0 (w_X8_howMany (cxG X) A_t A_t_kinds U_t_heights U_t_awnings U_t_shuts U_t_water U_t_suns U_t_walkers U_t_places U_t_procession U_t_told U_t_awningLines U_t_shutLines U_t_waterLines U_t_sunLines t_kinds) pl 0 [some (.ref A_t), some (.int p1), none, none] [] := by
  refine a_iconst (pc := 0) C dX8_howMany_0 kc_0 ?_
  refine s_istore_n (pc := 1) (i := 2) (lo' := [some (.ref A_t), some (.int p1), some (.int 0), none]) C dX8_howMany_1 rfl (by decide) rfl rfl ?_
  refine a_iconst (pc := 2) C dX8_howMany_2 kc_0 ?_
  refine s_istore_n (pc := 3) (i := 3) (lo' := [some (.ref A_t), some (.int p1), some (.int 0), some (.int 0)]) C dX8_howMany_3 rfl (by decide) rfl rfl ?_
  obtain ⟨n4, hw⟩ := hw
  refine m_X8_howMany_L4 C hret (fun l2 hw => ?_) n4 _ _ _ hw
  refine a_iload_n (pc := 29) (i := 2) C dX8_howMany_29 rfl rfl ?_
  exact hret _ _ _ hw dX8_howMany_30
theorem c_X8_howMany {l : Launch} {g : GG} {pl : Pool} (A_t A_t_kinds : Nat) (U_t_heights U_t_awnings U_t_shuts U_t_water U_t_suns U_t_walkers U_t_places U_t_procession U_t_told U_t_awningLines U_t_shutLines U_t_waterLines U_t_sunLines : Value) {t_kinds : Nat → Int32} {p1 : Int32} {post : Int32 → Prop} (hw : wp_X8_howMany t_kinds p1 post) : MI l yX8_howMany cX8_howMany 4 (some .int) (rmL 0) g Fz0 [.ref A_t, .int p1] (w_X8_howMany g A_t A_t_kinds U_t_heights U_t_awnings U_t_shuts U_t_water U_t_suns U_t_walkers U_t_places U_t_procession U_t_told U_t_awningLines U_t_shutLines U_t_waterLines U_t_sunLines t_kinds) pl (fun r (_ : Unit) => post r) (fun _ => (w_X8_howMany g A_t A_t_kinds U_t_heights U_t_awnings U_t_shuts U_t_water U_t_suns U_t_walkers U_t_places U_t_procession U_t_told U_t_awningLines U_t_shutLines U_t_waterLines U_t_sunLines t_kinds)) (fun _ => pl) 0 0 := by
  refine met_i (own := RX8) rfl rfl (Nat.le_of_ble_eq_true rfl) (fun X hg hl C hini hret => ?_)
  subst hg
  subst hl
  exact m_X8_howMany C (fun r pc lo hp hd => hret r () pc lo hp hd) hw
abbrev w_X8_howManyWalkers (g : GG) (A_t A_t_walkers : Nat) (U_t_kinds U_t_heights U_t_awnings U_t_shuts U_t_water U_t_suns U_t_places U_t_procession U_t_told U_t_awningLines U_t_shutLines U_t_waterLines U_t_sunLines : Value) (t_walkers : Nat → Option Nat) : va_W := [(A_t, ob 8 [U_t_kinds, U_t_heights, U_t_awnings, U_t_shuts, U_t_water, U_t_suns, .ref A_t_walkers, U_t_places, U_t_procession, U_t_told, U_t_awningLines, U_t_shutLines, U_t_waterLines, U_t_sunLines]), (A_t_walkers, aW g 6 t_walkers)]
def wp_X8_howManyWalkers_L4 (x_31 : Int32 → Prop) (t_walkers : Nat → Option Nat) (post : Int32 → Prop) (kb : Int32 × Int32 → Prop) : Int32 × Int32 → Prop := fun (l1, l2) =>
  ((nI 6) ≤ l2 → (x_31 l1)) ∧ (¬ (nI 6) ≤ l2 → (vp_in l2 6 ∧ (∀ x18 : Option Nat, x18 = (t_walkers (Int32.toNatClampNeg l2)) → ((x18 = none → (∀ y25 : Int32, y25 = l2 + 1 → (kb (l1, y25)))) ∧ (∀ q19 : Nat, x18 = some q19 → (∀ y22 : Int32, y22 = l1 + 1 → (∀ y25 : Int32, y25 = l2 + 1 → (kb (y22, y25)))))))))
set_option maxRecDepth 20000 in
theorem m_X8_howManyWalkers_L4 {X : Ctx} (C : Cok X cX8_howManyWalkers 3 RX8 (rmL 0) Fz0) {pl : Pool} {A_t A_t_walkers : Nat} {U_t_kinds U_t_heights U_t_awnings U_t_shuts U_t_water U_t_suns U_t_places U_t_procession U_t_told U_t_awningLines U_t_shutLines U_t_waterLines U_t_sunLines : Value} {t_walkers : Nat → Option Nat} {post : Int32 → Prop} (hret : ∀ (r : Int32) (pc : Nat) (lo : List (Option Value)), post r → decode cX8_howManyWalkers pc = .ok (.ireturn, 1) → AW X 3 0 0 (w_X8_howManyWalkers (cxG X) A_t A_t_walkers U_t_kinds U_t_heights U_t_awnings U_t_shuts U_t_water U_t_suns U_t_places U_t_procession U_t_told U_t_awningLines U_t_shutLines U_t_waterLines U_t_sunLines t_walkers) pl pc lo [.int r]) {x_31 : Int32 → Prop} (hx_31 : ∀ (l1 : Int32) , x_31 l1 → AW X 3 0 0 (w_X8_howManyWalkers (cxG X) A_t A_t_walkers U_t_kinds U_t_heights U_t_awnings U_t_shuts U_t_water U_t_suns U_t_places U_t_procession U_t_told U_t_awningLines U_t_shutLines U_t_waterLines U_t_sunLines t_walkers) pl 31 [none, some (.int l1), none] []) : ∀ (n4 : Nat) (l1 : Int32) (l2 : Int32) , lp (wp_X8_howManyWalkers_L4 x_31 t_walkers post) n4 (l1, l2) → AW X 3 0 0 (w_X8_howManyWalkers (cxG X) A_t A_t_walkers U_t_kinds U_t_heights U_t_awnings U_t_shuts U_t_water U_t_suns U_t_places U_t_procession U_t_told U_t_awningLines U_t_shutLines U_t_waterLines U_t_sunLines t_walkers) pl 4 [some (.ref A_t), some (.int l1), some (.int l2)] [] := by
  intro n4
  induction n4 with
  | zero => exact fun _ _ hw => hw.elim
  | succ n4 hkb =>
    intro l1 l2 hw
    replace hw : wp_X8_howManyWalkers_L4 x_31 t_walkers post (lp (wp_X8_howManyWalkers_L4 x_31 t_walkers post) n4) (l1, l2) := hw
    generalize lp (wp_X8_howManyWalkers_L4 x_31 t_walkers post) n4 = kb at hw hkb
    refine a_iload_n (pc := 4) (i := 2) C dX8_howManyWalkers_4 rfl rfl ?_
    refine a_aload_n (pc := 5) (i := 0) C dX8_howManyWalkers_5 rfl rfl ?_
    refine a_get (pc := 6) C fl_X8_41 dX8_howManyWalkers_6 0 rfl rfl ?_
    refine a_alenW (pc := 9) C dX8_howManyWalkers_9 1 rfl ?_
    refine a_icmp_ge (pc := 10) (tgt := 31) C dX8_howManyWalkers_10 (by decide) (fun c_10 => ?_) (fun c_10 => ?_)
    · replace hw := hw.1 c_10
      refine a_msk [false, true, false] rfl ?_
      exact hx_31 _ hw
    · replace hw := hw.2 c_10
      refine a_aload_n (pc := 13) (i := 0) C dX8_howManyWalkers_13 rfl rfl ?_
      refine a_get (pc := 14) C fl_X8_41 dX8_howManyWalkers_14 0 rfl rfl ?_
      refine a_iload_n (pc := 17) (i := 2) C dX8_howManyWalkers_17 rfl rfl ?_
      obtain ⟨i_18, hw⟩ := hw
      refine a_aldW (pc := 18) C dX8_howManyWalkers_18 1 rfl i_18 ?_
      refine a_topo (fun x18 e_x18 => ?_)
      replace hw := hw x18 e_x18
      refine a_ifnullO (pc := 19) (tgt := 25) C dX8_howManyWalkers_19 (by decide) (fun c_19 => ?_) (fun q19 c_19 => ?_)
      · replace hw := hw.1 c_19
        subst c_19
        refine a_inc (pc := 25) (i := 2) C (fun y => [some (.ref A_t), some (.int l1), some (.int y)]) dX8_howManyWalkers_25 rfl kc_1 (by decide) rfl (fun _ => rfl) (fun y25 e_y25 => ?_)
        replace hw := hw y25 e_y25
        refine a_goto (pc := 28) (tgt := 4) C dX8_howManyWalkers_28 (by decide) ?_
        exact hkb _ _ hw
      · replace hw := hw.2 q19 c_19
        subst c_19
        refine a_inc (pc := 22) (i := 1) C (fun y => [some (.ref A_t), some (.int y), some (.int l2)]) dX8_howManyWalkers_22 rfl kc_1 (by decide) rfl (fun _ => rfl) (fun y22 e_y22 => ?_)
        replace hw := hw y22 e_y22
        refine a_inc (pc := 25) (i := 2) C (fun y => [some (.ref A_t), some (.int y22), some (.int y)]) dX8_howManyWalkers_25 rfl kc_1 (by decide) rfl (fun _ => rfl) (fun y25 e_y25 => ?_)
        replace hw := hw y25 e_y25
        refine a_goto (pc := 28) (tgt := 4) C dX8_howManyWalkers_28 (by decide) ?_
        exact hkb _ _ hw
def wp_X8_howManyWalkers (t_walkers : Nat → Option Nat) (post : Int32 → Prop) : Prop :=
  ∃ n, lp (wp_X8_howManyWalkers_L4 (fun l1 => post l1) t_walkers post) n (0, 0)
set_option maxRecDepth 20000 in
theorem m_X8_howManyWalkers {X : Ctx} (C : Cok X cX8_howManyWalkers 3 RX8 (rmL 0) Fz0) {pl : Pool} {A_t A_t_walkers : Nat} {U_t_kinds U_t_heights U_t_awnings U_t_shuts U_t_water U_t_suns U_t_places U_t_procession U_t_told U_t_awningLines U_t_shutLines U_t_waterLines U_t_sunLines : Value} {t_walkers : Nat → Option Nat} {post : Int32 → Prop} (hret : ∀ (r : Int32) (pc : Nat) (lo : List (Option Value)), post r → decode cX8_howManyWalkers pc = .ok (.ireturn, 1) → AW X 3 0 0 (w_X8_howManyWalkers (cxG X) A_t A_t_walkers U_t_kinds U_t_heights U_t_awnings U_t_shuts U_t_water U_t_suns U_t_places U_t_procession U_t_told U_t_awningLines U_t_shutLines U_t_waterLines U_t_sunLines t_walkers) pl pc lo [.int r]) (hw : wp_X8_howManyWalkers t_walkers post) : AW X 3 0 0 (w_X8_howManyWalkers (cxG X) A_t A_t_walkers U_t_kinds U_t_heights U_t_awnings U_t_shuts U_t_water U_t_suns U_t_places U_t_procession U_t_told U_t_awningLines U_t_shutLines U_t_waterLines U_t_sunLines t_walkers) pl 0 [some (.ref A_t), none, none] [] := by
  refine a_iconst (pc := 0) C dX8_howManyWalkers_0 kc_0 ?_
  refine s_istore_n (pc := 1) (i := 1) (lo' := [some (.ref A_t), some (.int 0), none]) C dX8_howManyWalkers_1 rfl (by decide) rfl rfl ?_
  refine a_iconst (pc := 2) C dX8_howManyWalkers_2 kc_0 ?_
  refine s_istore_n (pc := 3) (i := 2) (lo' := [some (.ref A_t), some (.int 0), some (.int 0)]) C dX8_howManyWalkers_3 rfl (by decide) rfl rfl ?_
  obtain ⟨n4, hw⟩ := hw
  refine m_X8_howManyWalkers_L4 C hret (fun l1 hw => ?_) n4 _ _ hw
  refine a_iload_n (pc := 31) (i := 1) C dX8_howManyWalkers_31 rfl rfl ?_
  exact hret _ _ _ hw dX8_howManyWalkers_32
theorem c_X8_howManyWalkers {l : Launch} {g : GG} {pl : Pool} (A_t A_t_walkers : Nat) (U_t_kinds U_t_heights U_t_awnings U_t_shuts U_t_water U_t_suns U_t_places U_t_procession U_t_told U_t_awningLines U_t_shutLines U_t_waterLines U_t_sunLines : Value) {t_walkers : Nat → Option Nat} {post : Int32 → Prop} (hw : wp_X8_howManyWalkers t_walkers post) : MI l yX8_howManyWalkers cX8_howManyWalkers 3 (some .int) (rmL 0) g Fz0 [.ref A_t] (w_X8_howManyWalkers g A_t A_t_walkers U_t_kinds U_t_heights U_t_awnings U_t_shuts U_t_water U_t_suns U_t_places U_t_procession U_t_told U_t_awningLines U_t_shutLines U_t_waterLines U_t_sunLines t_walkers) pl (fun r (_ : Unit) => post r) (fun _ => (w_X8_howManyWalkers g A_t A_t_walkers U_t_kinds U_t_heights U_t_awnings U_t_shuts U_t_water U_t_suns U_t_places U_t_procession U_t_told U_t_awningLines U_t_shutLines U_t_waterLines U_t_sunLines t_walkers)) (fun _ => pl) 0 0 := by
  refine met_i (own := RX8) rfl rfl (Nat.le_of_ble_eq_true rfl) (fun X hg hl C hini hret => ?_)
  subst hg
  subst hl
  exact m_X8_howManyWalkers C (fun r pc lo hp hd => hret r () pc lo hp hd) hw
abbrev w_X8_sun (g : GG) (A_t A_t_suns : Nat) (U_t_kinds U_t_heights U_t_awnings U_t_shuts U_t_water U_t_walkers U_t_places U_t_procession U_t_told U_t_awningLines U_t_shutLines U_t_waterLines : Value) (t_sunLines : Int32) (t_suns : Nat → Option Nat) : va_W := [(A_t, ob 8 [U_t_kinds, U_t_heights, U_t_awnings, U_t_shuts, U_t_water, .ref A_t_suns, U_t_walkers, U_t_places, U_t_procession, U_t_told, U_t_awningLines, U_t_shutLines, U_t_waterLines, .int t_sunLines]), (A_t_suns, aS g 24 t_suns)]
def wp_X8_sun (t_sunLines : Int32) (t_suns : Nat → Option Nat) (p1 : Int32) (post : Option Nat → Prop) : Prop :=
  (p1 < 0 → (post none)) ∧ (¬ p1 < 0 → ((t_sunLines ≤ p1 → (post none)) ∧ (¬ t_sunLines ≤ p1 → ((p1 < (nI 24) → (vp_in p1 24 ∧ (∀ x30 : Option Nat, x30 = (t_suns (Int32.toNatClampNeg p1)) → (post x30)))) ∧ (¬ p1 < (nI 24) → (post none))))))
set_option maxRecDepth 20000 in
theorem m_X8_sun {X : Ctx} (C : Cok X cX8_sun 2 RX8 (rmL 0) Fz0) {pl : Pool} {A_t A_t_suns : Nat} {U_t_kinds U_t_heights U_t_awnings U_t_shuts U_t_water U_t_walkers U_t_places U_t_procession U_t_told U_t_awningLines U_t_shutLines U_t_waterLines : Value} {t_sunLines : Int32} {t_suns : Nat → Option Nat} {p1 : Int32} {post : Option Nat → Prop} (hret : ∀ (r : Option Nat) (pc : Nat) (lo : List (Option Value)), post r → decode cX8_sun pc = .ok (.areturn, 1) → AW X 2 0 0 (w_X8_sun (cxG X) A_t A_t_suns U_t_kinds U_t_heights U_t_awnings U_t_shuts U_t_water U_t_walkers U_t_places U_t_procession U_t_told U_t_awningLines U_t_shutLines U_t_waterLines t_sunLines t_suns) pl pc lo [va_rf r]) (hw : wp_X8_sun t_sunLines t_suns p1 post) : AW X 2 0 0 (w_X8_sun (cxG X) A_t A_t_suns U_t_kinds U_t_heights U_t_awnings U_t_shuts U_t_water U_t_walkers U_t_places U_t_procession U_t_told U_t_awningLines U_t_shutLines U_t_waterLines t_sunLines t_suns) pl 0 [some (.ref A_t), some (.int p1)] [] := by
  refine a_iload_n (pc := 0) (i := 1) C dX8_sun_0 rfl rfl ?_
  refine a_if_lt (pc := 1) (tgt := 21) C dX8_sun_1 (by decide) (fun c_1 => ?_) (fun c_1 => ?_)
  · replace hw := hw.1 c_1
    refine a_null (pc := 21) C dX8_sun_21 ?_
    refine a_goto (pc := 22) (tgt := 31) C dX8_sun_22 (by decide) ?_
    exact hret none  _ _ hw dX8_sun_31
  · replace hw := hw.2 c_1
    refine a_iload_n (pc := 4) (i := 1) C dX8_sun_4 rfl rfl ?_
    refine a_aload_n (pc := 5) (i := 0) C dX8_sun_5 rfl rfl ?_
    refine a_get (pc := 6) C fl_X8_78 dX8_sun_6 0 rfl rfl ?_
    refine a_icmp_ge (pc := 9) (tgt := 21) C dX8_sun_9 (by decide) (fun c_9 => ?_) (fun c_9 => ?_)
    · replace hw := hw.1 c_9
      refine a_null (pc := 21) C dX8_sun_21 ?_
      refine a_goto (pc := 22) (tgt := 31) C dX8_sun_22 (by decide) ?_
      exact hret none  _ _ hw dX8_sun_31
    · replace hw := hw.2 c_9
      refine a_iload_n (pc := 12) (i := 1) C dX8_sun_12 rfl rfl ?_
      refine a_aload_n (pc := 13) (i := 0) C dX8_sun_13 rfl rfl ?_
      refine a_get (pc := 14) C fl_X8_35 dX8_sun_14 0 rfl rfl ?_
      refine a_alenS (pc := 17) C dX8_sun_17 1 rfl ?_
      refine a_icmp_lt (pc := 18) (tgt := 25) C dX8_sun_18 (by decide) (fun c_18 => ?_) (fun c_18 => ?_)
      · replace hw := hw.1 c_18
        refine a_aload_n (pc := 25) (i := 0) C dX8_sun_25 rfl rfl ?_
        refine a_get (pc := 26) C fl_X8_35 dX8_sun_26 0 rfl rfl ?_
        refine a_iload_n (pc := 29) (i := 1) C dX8_sun_29 rfl rfl ?_
        obtain ⟨i_30, hw⟩ := hw
        refine a_aldS (pc := 30) C dX8_sun_30 1 rfl i_30 ?_
        refine a_topo (fun x30 e_x30 => ?_)
        replace hw := hw x30 e_x30
        exact hret x30  _ _ hw dX8_sun_31
      · replace hw := hw.2 c_18
        refine a_null (pc := 21) C dX8_sun_21 ?_
        refine a_goto (pc := 22) (tgt := 31) C dX8_sun_22 (by decide) ?_
        exact hret none  _ _ hw dX8_sun_31
theorem c_X8_sun {l : Launch} {g : GG} {pl : Pool} (A_t A_t_suns : Nat) (U_t_kinds U_t_heights U_t_awnings U_t_shuts U_t_water U_t_walkers U_t_places U_t_procession U_t_told U_t_awningLines U_t_shutLines U_t_waterLines : Value) {t_sunLines : Int32} {t_suns : Nat → Option Nat} {p1 : Int32} {post : Option Nat → Prop} (hw : wp_X8_sun t_sunLines t_suns p1 post) : MO l yX8_sun cX8_sun 2 (some (.object "ShadySide$Sun")) (rmL 0) g Fz0 [.ref A_t, .int p1] (w_X8_sun g A_t A_t_suns U_t_kinds U_t_heights U_t_awnings U_t_shuts U_t_water U_t_walkers U_t_places U_t_procession U_t_told U_t_awningLines U_t_shutLines U_t_waterLines t_sunLines t_suns) pl (fun r (_ : Unit) => post r) (fun _ => (w_X8_sun g A_t A_t_suns U_t_kinds U_t_heights U_t_awnings U_t_shuts U_t_water U_t_walkers U_t_places U_t_procession U_t_told U_t_awningLines U_t_shutLines U_t_waterLines t_sunLines t_suns)) (fun _ => pl) 0 0 := by
  refine met_o (own := RX8) rfl rfl (Nat.le_of_ble_eq_true rfl) (fun X hg hl C hini hret => ?_)
  subst hg
  subst hl
  exact m_X8_sun C (fun r pc lo hp hd => hret r () pc lo hp hd) hw
abbrev w_X8_lastSunOf (g : GG) (A_t A_t_suns : Nat) (U_t_kinds U_t_heights U_t_awnings U_t_shuts U_t_water U_t_walkers U_t_places U_t_procession U_t_told U_t_awningLines U_t_shutLines U_t_waterLines : Value) (t_sunLines : Int32) (t_suns : Nat → Option Nat) : va_W := [(A_t, ob 8 [U_t_kinds, U_t_heights, U_t_awnings, U_t_shuts, U_t_water, .ref A_t_suns, U_t_walkers, U_t_places, U_t_procession, U_t_told, U_t_awningLines, U_t_shutLines, U_t_waterLines, .int t_sunLines]), (A_t_suns, aS g 24 t_suns)]
def wp_X8_lastSunOf_L4 (pl : Pool) (x_45 : Int32 → Prop) (t_sunLines : Int32) (t_suns : Nat → Option Nat) (post : Int32 → Prop) (kb : Int32 × Int32 × Int32 → Prop) : Int32 × Int32 × Int32 → Prop := fun (l1, l2, l3) =>
  (t_sunLines ≤ l3 → (x_45 l2)) ∧ (¬ t_sunLines ≤ l3 → (wp_X8_sun t_sunLines t_suns l3 (fun r14 => (r14 = none → (∀ y39 : Int32, y39 = l3 + 1 → (kb (l1, l2, y39)))) ∧ (∀ q21 : Nat, r14 = some q21 → (∃ o26_day o26_minute o26_direction o26_over o26_under : Int32, (q21, ob 7 [.int o26_day, .int o26_minute, .int o26_direction, .int o26_over, .int o26_under]) ∈ pl ∧ ((¬ o26_day = l1 → (∀ y39 : Int32, y39 = l3 + 1 → (kb (l1, l2, y39)))) ∧ (o26_day = l1 → (∀ y39 : Int32, y39 = l3 + 1 → (kb (l1, o26_minute, y39))))))))))
set_option maxRecDepth 20000 in
theorem m_X8_lastSunOf_L4 {X : Ctx} (C : Cok X cX8_lastSunOf 5 RX8 (rmL 1) Fz0) {pl : Pool} {A_t A_t_suns : Nat} {U_t_kinds U_t_heights U_t_awnings U_t_shuts U_t_water U_t_walkers U_t_places U_t_procession U_t_told U_t_awningLines U_t_shutLines U_t_waterLines : Value} {t_sunLines : Int32} {t_suns : Nat → Option Nat} {post : Int32 → Prop} (hret : ∀ (r : Int32) (pc : Nat) (lo : List (Option Value)), post r → decode cX8_lastSunOf pc = .ok (.ireturn, 1) → AW X 5 0 0 (w_X8_lastSunOf (cxG X) A_t A_t_suns U_t_kinds U_t_heights U_t_awnings U_t_shuts U_t_water U_t_walkers U_t_places U_t_procession U_t_told U_t_awningLines U_t_shutLines U_t_waterLines t_sunLines t_suns) pl pc lo [.int r]) {x_45 : Int32 → Prop} (hx_45 : ∀ (l2 : Int32) , x_45 l2 → AW X 5 0 0 (w_X8_lastSunOf (cxG X) A_t A_t_suns U_t_kinds U_t_heights U_t_awnings U_t_shuts U_t_water U_t_walkers U_t_places U_t_procession U_t_told U_t_awningLines U_t_shutLines U_t_waterLines t_sunLines t_suns) pl 45 [none, none, some (.int l2), none, none] []) : ∀ (n4 : Nat) (l1 : Int32) (l2 : Int32) (l3 : Int32) , lp (wp_X8_lastSunOf_L4 pl x_45 t_sunLines t_suns post) n4 (l1, l2, l3) → AW X 5 0 0 (w_X8_lastSunOf (cxG X) A_t A_t_suns U_t_kinds U_t_heights U_t_awnings U_t_shuts U_t_water U_t_walkers U_t_places U_t_procession U_t_told U_t_awningLines U_t_shutLines U_t_waterLines t_sunLines t_suns) pl 4 [some (.ref A_t), some (.int l1), some (.int l2), some (.int l3), none] [] := by
  intro n4
  induction n4 with
  | zero => exact fun _ _ _ hw => hw.elim
  | succ n4 hkb =>
    intro l1 l2 l3 hw
    replace hw : wp_X8_lastSunOf_L4 pl x_45 t_sunLines t_suns post (lp (wp_X8_lastSunOf_L4 pl x_45 t_sunLines t_suns post) n4) (l1, l2, l3) := hw
    generalize lp (wp_X8_lastSunOf_L4 pl x_45 t_sunLines t_suns post) n4 = kb at hw hkb
    refine a_iload_n (pc := 4) (i := 3) C dX8_lastSunOf_4 rfl rfl ?_
    refine a_aload_n (pc := 5) (i := 0) C dX8_lastSunOf_5 rfl rfl ?_
    refine a_get (pc := 6) C fl_X8_78 dX8_lastSunOf_6 0 rfl rfl ?_
    refine a_icmp_ge (pc := 9) (tgt := 45) C dX8_lastSunOf_9 (by decide) (fun c_9 => ?_) (fun c_9 => ?_)
    · replace hw := hw.1 c_9
      refine a_msk [false, false, true, false, true] rfl ?_
      exact hx_45 _ hw
    · replace hw := hw.2 c_9
      refine a_aload_n (pc := 12) (i := 0) C dX8_lastSunOf_12 rfl rfl ?_
      refine a_iload_n (pc := 13) (i := 3) C dX8_lastSunOf_13 rfl rfl ?_
      refine a_callVo (pc := 14) (As := [.int l3]) (st := []) (ws' := (fun _ => (w_X8_lastSunOf (cxG X) A_t A_t_suns U_t_kinds U_t_heights U_t_awnings U_t_shuts U_t_water U_t_walkers U_t_places U_t_procession U_t_told U_t_awningLines U_t_shutLines U_t_waterLines t_sunLines t_suns))) C (c_X8_sun A_t A_t_suns U_t_kinds U_t_heights U_t_awnings U_t_shuts U_t_water U_t_walkers U_t_places U_t_procession U_t_told U_t_awningLines U_t_shutLines U_t_waterLines hw) dX8_lastSunOf_14 mth_X8_sun tml_X8_98 (fun _ _ h => trivial) Fz0_ok (rml (by decide) (by decide)) (Nat.le_of_ble_eq_true rfl) rfl rfl [0, 1] [] [0, 1] rfl rfl rfl rfl rfl rfl (ci := 8) rfl ⟨0, _, rfl⟩ (fun _ => rfl) rfl (fun _ => rfl) (fun r14 u hw => ?_)
      show AW X 5 0 0 (w_X8_lastSunOf (cxG X) A_t A_t_suns U_t_kinds U_t_heights U_t_awnings U_t_shuts U_t_water U_t_walkers U_t_places U_t_procession U_t_told U_t_awningLines U_t_shutLines U_t_waterLines t_sunLines t_suns) pl 17 [some (.ref A_t), some (.int l1), some (.int l2), some (.int l3), none] [va_rf r14]
      refine s_astoreO (pc := 17) (i := 4) (lo' := [some (.ref A_t), some (.int l1), some (.int l2), some (.int l3), some (va_rf r14)]) C dX8_lastSunOf_17 (by decide) rfl rfl ?_
      refine a_aloadO (pc := 19) (i := 4) C dX8_lastSunOf_19 rfl ?_
      refine a_ifnullO (pc := 21) (tgt := 39) C dX8_lastSunOf_21 (by decide) (fun c_21 => ?_) (fun q21 c_21 => ?_)
      · replace hw := hw.1 c_21
        subst c_21
        refine a_inc (pc := 39) (i := 3) C (fun y => [some (.ref A_t), some (.int l1), some (.int l2), some (.int y), some (.null)]) dX8_lastSunOf_39 rfl kc_1 (by decide) rfl (fun _ => rfl) (fun y39 e_y39 => ?_)
        replace hw := hw y39 e_y39
        refine a_goto (pc := 42) (tgt := 4) C dX8_lastSunOf_42 (by decide) ?_
        refine a_msk [true, true, true, true, false] rfl ?_
        exact hkb _ _ _ hw
      · replace hw := hw.2 q21 c_21
        subst c_21
        refine a_aload (pc := 24) (i := 4) C dX8_lastSunOf_24 rfl ?_
        obtain ⟨o26_day, o26_minute, o26_direction, o26_over, o26_under, hp_o26, hw⟩ := hw
        refine a_getP (pc := 26) C fl_X8_102 dX8_lastSunOf_26 hp_o26 rfl ?_
        refine a_iload_n (pc := 29) (i := 1) C dX8_lastSunOf_29 rfl rfl ?_
        refine a_icmp_ne (pc := 30) (tgt := 39) C dX8_lastSunOf_30 (by decide) (fun c_30 => ?_) (fun c_30 => ?_)
        · replace hw := hw.1 c_30
          refine a_inc (pc := 39) (i := 3) C (fun y => [some (.ref A_t), some (.int l1), some (.int l2), some (.int y), some (.ref q21)]) dX8_lastSunOf_39 rfl kc_1 (by decide) rfl (fun _ => rfl) (fun y39 e_y39 => ?_)
          replace hw := hw y39 e_y39
          refine a_goto (pc := 42) (tgt := 4) C dX8_lastSunOf_42 (by decide) ?_
          refine a_msk [true, true, true, true, false] rfl ?_
          exact hkb _ _ _ hw
        · replace hw := hw.2 c_30
          refine a_aload (pc := 33) (i := 4) C dX8_lastSunOf_33 rfl ?_
          refine a_getP (pc := 35) C fl_X8_105 dX8_lastSunOf_35 hp_o26 rfl ?_
          refine s_istore_n (pc := 38) (i := 2) (lo' := [some (.ref A_t), some (.int l1), some (.int o26_minute), some (.int l3), some (.ref q21)]) C dX8_lastSunOf_38 rfl (by decide) rfl rfl ?_
          refine a_inc (pc := 39) (i := 3) C (fun y => [some (.ref A_t), some (.int l1), some (.int o26_minute), some (.int y), some (.ref q21)]) dX8_lastSunOf_39 rfl kc_1 (by decide) rfl (fun _ => rfl) (fun y39 e_y39 => ?_)
          replace hw := hw y39 e_y39
          refine a_goto (pc := 42) (tgt := 4) C dX8_lastSunOf_42 (by decide) ?_
          refine a_msk [true, true, true, true, false] rfl ?_
          exact hkb _ _ _ hw
def wp_X8_lastSunOf (pl : Pool) (t_sunLines : Int32) (t_suns : Nat → Option Nat) (p1 : Int32) (post : Int32 → Prop) : Prop :=
  ∃ n, lp (wp_X8_lastSunOf_L4 pl (fun l2 => post l2) t_sunLines t_suns post) n (p1, (-1), 0)
set_option maxRecDepth 20000 in
theorem m_X8_lastSunOf {X : Ctx} (C : Cok X cX8_lastSunOf 5 RX8 (rmL 1) Fz0) {pl : Pool} {A_t A_t_suns : Nat} {U_t_kinds U_t_heights U_t_awnings U_t_shuts U_t_water U_t_walkers U_t_places U_t_procession U_t_told U_t_awningLines U_t_shutLines U_t_waterLines : Value} {t_sunLines : Int32} {t_suns : Nat → Option Nat} {p1 : Int32} {post : Int32 → Prop} (hret : ∀ (r : Int32) (pc : Nat) (lo : List (Option Value)), post r → decode cX8_lastSunOf pc = .ok (.ireturn, 1) → AW X 5 0 0 (w_X8_lastSunOf (cxG X) A_t A_t_suns U_t_kinds U_t_heights U_t_awnings U_t_shuts U_t_water U_t_walkers U_t_places U_t_procession U_t_told U_t_awningLines U_t_shutLines U_t_waterLines t_sunLines t_suns) pl pc lo [.int r]) (hw : wp_X8_lastSunOf pl t_sunLines t_suns p1 post) : AW X 5 0 0 (w_X8_lastSunOf (cxG X) A_t A_t_suns U_t_kinds U_t_heights U_t_awnings U_t_shuts U_t_water U_t_walkers U_t_places U_t_procession U_t_told U_t_awningLines U_t_shutLines U_t_waterLines t_sunLines t_suns) pl 0 [some (.ref A_t), some (.int p1), none, none, none] [] := by
  refine a_iconst (pc := 0) C dX8_lastSunOf_0 kc_m1 ?_
  refine s_istore_n (pc := 1) (i := 2) (lo' := [some (.ref A_t), some (.int p1), some (.int (-1)), none, none]) C dX8_lastSunOf_1 rfl (by decide) rfl rfl ?_
  refine a_iconst (pc := 2) C dX8_lastSunOf_2 kc_0 ?_
  refine s_istore_n (pc := 3) (i := 3) (lo' := [some (.ref A_t), some (.int p1), some (.int (-1)), some (.int 0), none]) C dX8_lastSunOf_3 rfl (by decide) rfl rfl ?_
  obtain ⟨n4, hw⟩ := hw
  refine m_X8_lastSunOf_L4 C hret (fun l2 hw => ?_) n4 _ _ _ hw
  refine a_iload_n (pc := 45) (i := 2) C dX8_lastSunOf_45 rfl rfl ?_
  exact hret _ _ _ hw dX8_lastSunOf_46
theorem c_X8_lastSunOf {l : Launch} {g : GG} {pl : Pool} (A_t A_t_suns : Nat) (U_t_kinds U_t_heights U_t_awnings U_t_shuts U_t_water U_t_walkers U_t_places U_t_procession U_t_told U_t_awningLines U_t_shutLines U_t_waterLines : Value) {t_sunLines : Int32} {t_suns : Nat → Option Nat} {p1 : Int32} {post : Int32 → Prop} (hw : wp_X8_lastSunOf pl t_sunLines t_suns p1 post) : MI l yX8_lastSunOf cX8_lastSunOf 5 (some .int) (rmL 1) g Fz0 [.ref A_t, .int p1] (w_X8_lastSunOf g A_t A_t_suns U_t_kinds U_t_heights U_t_awnings U_t_shuts U_t_water U_t_walkers U_t_places U_t_procession U_t_told U_t_awningLines U_t_shutLines U_t_waterLines t_sunLines t_suns) pl (fun r (_ : Unit) => post r) (fun _ => (w_X8_lastSunOf g A_t A_t_suns U_t_kinds U_t_heights U_t_awnings U_t_shuts U_t_water U_t_walkers U_t_places U_t_procession U_t_told U_t_awningLines U_t_shutLines U_t_waterLines t_sunLines t_suns)) (fun _ => pl) 0 0 := by
  refine met_i (own := RX8) rfl rfl (Nat.le_of_ble_eq_true rfl) (fun X hg hl C hini hret => ?_)
  subst hg
  subst hl
  exact m_X8_lastSunOf C (fun r pc lo hp hd => hret r () pc lo hp hd) hw
