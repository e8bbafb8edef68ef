abbrev w_J7_rangeCheck_23922 (g : GG) : va_W := []
set_option maxRecDepth 20000 in
theorem m_J7_rangeCheck_23922 {X : Ctx} (C : Cok X cJ7_rangeCheck_23922 3 RJ7 (rmL 0) Fz0) {pl : Pool} {p0 : Int32} {p1 : Int32} {p2 : Int32} {post : Prop} (hret : ∀ (pc : Nat) (lo : List (Option Value)), post → decode cJ7_rangeCheck_23922 pc = .ok (.return_, 1) → AW X 3 0 0 (w_J7_rangeCheck_23922 (cxG X)) pl pc lo []) (hw : wp_J7_rangeCheck_23922 p0 p1 p2 post) : AW X 3 0 0 (w_J7_rangeCheck_23922 (cxG X)) pl 0 [some (.int p0), some (.int p1), some (.int p2)] [] := by
  refine a_iload_n (pc := 0) (i := 1) C dJ7_rangeCheck_23922_0 rfl rfl ?_
  refine a_iload_n (pc := 1) (i := 2) C dJ7_rangeCheck_23922_1 rfl rfl ?_
  refine a_icmp_le (pc := 2) (tgt := 46) C dJ7_rangeCheck_23922_2 (by decide) (fun c_2 => ?_) (fun c_2 => ?_)
  · replace hw := hw.1 c_2
    refine a_iload_n (pc := 46) (i := 1) C dJ7_rangeCheck_23922_46 rfl rfl ?_
    refine a_if_ge (pc := 47) (tgt := 59) C dJ7_rangeCheck_23922_47 (by decide) (fun c_47 => ?_) (fun c_47 => ?_)
    · replace hw := hw.1 c_47
      refine a_iload_n (pc := 59) (i := 2) C dJ7_rangeCheck_23922_59 rfl rfl ?_
      refine a_iload_n (pc := 60) (i := 0) C dJ7_rangeCheck_23922_60 rfl rfl ?_
      refine a_icmp_le (pc := 61) (tgt := 73) C dJ7_rangeCheck_23922_61 (by decide) (fun c_61 => ?_) (fun c_61 => ?_)
      · replace hw := hw.1 c_61
        exact hret  _ _ hw dJ7_rangeCheck_23922_73
      · replace hw := hw.2 c_61
        exact hw.elim
    · replace hw := hw.2 c_47
      exact hw.elim
  · replace hw := hw.2 c_2
    exact hw.elim
theorem c_J7_rangeCheck_23922 {l : Launch} {g : GG} {pl : Pool} {p0 : Int32} {p1 : Int32} {p2 : Int32} {post : Prop} (hw : wp_J7_rangeCheck_23922 p0 p1 p2 post) : MV l yJ7_rangeCheck_23922 cJ7_rangeCheck_23922 3 (none : Option Jvm.ClassFile.FieldType) (rmL 0) g Fz0 [.int p0, .int p1, .int p2] (w_J7_rangeCheck_23922 g) pl (fun (_ : Unit) => post) (fun _ => (w_J7_rangeCheck_23922 g)) (fun _ => pl) 0 0 := by
  refine met_v (own := RJ7) rfl rfl (Nat.le_of_ble_eq_true rfl) (fun X hg hl C hini hret => ?_)
  subst hg
  subst hl
  exact m_J7_rangeCheck_23922 C (fun pc lo hp hd => hret () pc lo hp hd) hw
abbrev w_J7_fill_d0a16 (g : GG) (A_a0 : Nat) (n_a0 : Nat) (a0 : Nat → Int64) : va_W := [(A_a0, aJ g n_a0 a0)]
set_option maxRecDepth 20000 in
theorem m_J7_fill_d0a16_L6 {X : Ctx} (C : Cok X cJ7_fill_d0a16 5 RJ7 (rmL 0) Fz0) {pl : Pool} {A_a0 : Nat} {n_a0 : Nat} {post : (Nat → Int64) → Prop} (hret : ∀ (w0 : Nat → Int64) (pc : Nat) (lo : List (Option Value)), post w0 → decode cJ7_fill_d0a16 pc = .ok (.return_, 1) → AW X 5 0 0 (w_J7_fill_d0a16 (cxG X) A_a0 n_a0 w0) pl pc lo []) {x_22 : (Nat → Int64) → Prop} (hx_22 : ∀ (a0 : Nat → Int64) , x_22 a0 → AW X 5 0 0 (w_J7_fill_d0a16 (cxG X) A_a0 n_a0 a0) pl 22 [none, none, none, none, none] []) : ∀ (n6 : Nat) (a0 : Nat → Int64) (l1 : Int64) (l3 : Int32) (l4 : Int32) , lp (wp_J7_fill_d0a16_L6 x_22 n_a0 post) n6 (a0, l1, l3, l4) → AW X 5 0 0 (w_J7_fill_d0a16 (cxG X) A_a0 n_a0 a0) pl 6 [some (.ref A_a0), some (.long l1), none, some (.int l3), some (.int l4)] [] := by
  intro n6
  induction n6 with
  | zero => exact fun _ _ _ _ hw => hw.elim
  | succ n6 hkb =>
    intro a0 l1 l3 l4 hw
    replace hw : wp_J7_fill_d0a16_L6 x_22 n_a0 post (lp (wp_J7_fill_d0a16_L6 x_22 n_a0 post) n6) (a0, l1, l3, l4) := hw
    generalize lp (wp_J7_fill_d0a16_L6 x_22 n_a0 post) n6 = kb at hw hkb
    refine a_iload_n (pc := 6) (i := 3) C dJ7_fill_d0a16_6 rfl rfl ?_
    refine a_iload (pc := 7) (i := 4) C dJ7_fill_d0a16_7 rfl ?_
    refine a_icmp_ge (pc := 9) (tgt := 22) C dJ7_fill_d0a16_9 (by decide) (fun c_9 => ?_) (fun c_9 => ?_)
    · replace hw := hw.1 c_9
      refine a_msk [false, false, true, false, false] rfl ?_
      exact hx_22 _ hw
    · replace hw := hw.2 c_9
      refine a_aload_n (pc := 12) (i := 0) C dJ7_fill_d0a16_12 rfl rfl ?_
      refine a_iload_n (pc := 13) (i := 3) C dJ7_fill_d0a16_13 rfl rfl ?_
      refine a_lload_n (pc := 14) (i := 1) C dJ7_fill_d0a16_14 rfl rfl ?_
      obtain ⟨i_15, hw⟩ := hw
      refine a_lastW (pc := 15) C (fun h => (w_J7_fill_d0a16 (cxG X) A_a0 n_a0 h)) dJ7_fill_d0a16_15 0 rfl i_15 (fun _ => rfl) (fun a0_15 e_a0_15 => ?_)
      replace hw := hw a0_15 e_a0_15
      refine a_inc (pc := 16) (i := 3) C (fun y => [some (.ref A_a0), some (.long l1), none, some (.int y), some (.int l4)]) dJ7_fill_d0a16_16 rfl kc_1 (by decide) rfl (fun _ => rfl) (fun y16 e_y16 => ?_)
      replace hw := hw y16 e_y16
      refine a_goto (pc := 19) (tgt := 6) C dJ7_fill_d0a16_19 (by decide) ?_
      exact hkb _ _ _ _ hw
set_option maxRecDepth 20000 in
theorem m_J7_fill_d0a16 {X : Ctx} (C : Cok X cJ7_fill_d0a16 5 RJ7 (rmL 0) Fz0) {pl : Pool} {A_a0 : Nat} {n_a0 : Nat} {a0 : Nat → Int64} {p1 : Int64} {post : (Nat → Int64) → Prop} (hret : ∀ (w0 : Nat → Int64) (pc : Nat) (lo : List (Option Value)), post w0 → decode cJ7_fill_d0a16 pc = .ok (.return_, 1) → AW X 5 0 0 (w_J7_fill_d0a16 (cxG X) A_a0 n_a0 w0) pl pc lo []) (hw : wp_J7_fill_d0a16 n_a0 a0 p1 post) : AW X 5 0 0 (w_J7_fill_d0a16 (cxG X) A_a0 n_a0 a0) pl 0 [some (.ref A_a0), some (.long p1), none, none, none] [] := by
  refine a_iconst (pc := 0) C dJ7_fill_d0a16_0 kc_0 ?_
  refine s_istore_n (pc := 1) (i := 3) (lo' := [some (.ref A_a0), some (.long p1), none, some (.int 0), none]) C dJ7_fill_d0a16_1 rfl (by decide) rfl rfl ?_
  refine a_aload_n (pc := 2) (i := 0) C dJ7_fill_d0a16_2 rfl rfl ?_
  refine a_alenJ (pc := 3) C dJ7_fill_d0a16_3 0 rfl ?_
  refine a_topi (fun x4 e_x4 => ?_)
  replace hw := hw x4 e_x4
  refine s_istore (pc := 4) (i := 4) (lo' := [some (.ref A_a0), some (.long p1), none, some (.int 0), some (.int x4)]) C dJ7_fill_d0a16_4 (by decide) rfl rfl ?_
  obtain ⟨n6, hw⟩ := hw
  refine m_J7_fill_d0a16_L6 C hret (fun a0 hw => ?_) n6 _ _ _ _ hw
  exact hret _ _ _ hw dJ7_fill_d0a16_22
theorem c_J7_fill_d0a16 {l : Launch} {g : GG} {pl : Pool} (A_a0 : Nat) (n_a0 : Nat) {a0 : Nat → Int64} {p1 : Int64} {post : (Nat → Int64) → Prop} (hw : wp_J7_fill_d0a16 n_a0 a0 p1 post) : MV l yJ7_fill_d0a16 cJ7_fill_d0a16 5 (none : Option Jvm.ClassFile.FieldType) (rmL 0) g Fz0 [.ref A_a0, .long p1] (w_J7_fill_d0a16 g A_a0 n_a0 a0) pl (fun (u : (Nat → Int64)) => post u) (fun u => (w_J7_fill_d0a16 g A_a0 n_a0 u)) (fun _ => pl) 0 0 := by
  refine met_v (own := RJ7) rfl rfl (Nat.le_of_ble_eq_true rfl) (fun X hg hl C hini hret => ?_)
  subst hg
  subst hl
  exact m_J7_fill_d0a16 C (fun w0 pc lo hp hd => hret w0 pc lo hp hd) hw
abbrev w_J7_fill_53178 (g : GG) (A_a0 : Nat) (n_a0 : Nat) (a0 : Nat → Int32) : va_W := [(A_a0, aI g n_a0 a0)]
set_option maxRecDepth 20000 in
theorem m_J7_fill_53178_L5 {X : Ctx} (C : Cok X cJ7_fill_53178 4 RJ7 (rmL 0) Fz0) {pl : Pool} {A_a0 : Nat} {n_a0 : Nat} {post : (Nat → Int32) → Prop} (hret : ∀ (w0 : Nat → Int32) (pc : Nat) (lo : List (Option Value)), post w0 → decode cJ7_fill_53178 pc = .ok (.return_, 1) → AW X 4 0 0 (w_J7_fill_53178 (cxG X) A_a0 n_a0 w0) pl pc lo []) {x_20 : (Nat → Int32) → Prop} (hx_20 : ∀ (a0 : Nat → Int32) , x_20 a0 → AW X 4 0 0 (w_J7_fill_53178 (cxG X) A_a0 n_a0 a0) pl 20 [none, none, none, none] []) : ∀ (n5 : Nat) (a0 : Nat → Int32) (l1 : Int32) (l2 : Int32) (l3 : Int32) , lp (wp_J7_fill_53178_L5 x_20 n_a0 post) n5 (a0, l1, l2, l3) → AW X 4 0 0 (w_J7_fill_53178 (cxG X) A_a0 n_a0 a0) pl 5 [some (.ref A_a0), some (.int l1), some (.int l2), some (.int l3)] [] := by
  intro n5
  induction n5 with
  | zero => exact fun _ _ _ _ hw => hw.elim
  | succ n5 hkb =>
    intro a0 l1 l2 l3 hw
    replace hw : wp_J7_fill_53178_L5 x_20 n_a0 post (lp (wp_J7_fill_53178_L5 x_20 n_a0 post) n5) (a0, l1, l2, l3) := hw
    generalize lp (wp_J7_fill_53178_L5 x_20 n_a0 post) n5 = kb at hw hkb
    refine a_iload_n (pc := 5) (i := 2) C dJ7_fill_53178_5 rfl rfl ?_
    refine a_iload_n (pc := 6) (i := 3) C dJ7_fill_53178_6 rfl rfl ?_
    refine a_icmp_ge (pc := 7) (tgt := 20) C dJ7_fill_53178_7 (by decide) (fun c_7 => ?_) (fun c_7 => ?_)
    · replace hw := hw.1 c_7
      refine a_msk [false, false, false, false] rfl ?_
      exact hx_20 _ hw
    · replace hw := hw.2 c_7
      refine a_aload_n (pc := 10) (i := 0) C dJ7_fill_53178_10 rfl rfl ?_
      refine a_iload_n (pc := 11) (i := 2) C dJ7_fill_53178_11 rfl rfl ?_
      refine a_iload_n (pc := 12) (i := 1) C dJ7_fill_53178_12 rfl rfl ?_
      obtain ⟨i_13, hw⟩ := hw
      refine a_iastW (pc := 13) C (fun h => (w_J7_fill_53178 (cxG X) A_a0 n_a0 h)) dJ7_fill_53178_13 0 rfl i_13 (fun _ => rfl) (fun a0_13 e_a0_13 => ?_)
      replace hw := hw a0_13 e_a0_13
      refine a_inc (pc := 14) (i := 2) C (fun y => [some (.ref A_a0), some (.int l1), some (.int y), some (.int l3)]) dJ7_fill_53178_14 rfl kc_1 (by decide) rfl (fun _ => rfl) (fun y14 e_y14 => ?_)
      replace hw := hw y14 e_y14
      refine a_goto (pc := 17) (tgt := 5) C dJ7_fill_53178_17 (by decide) ?_
      exact hkb _ _ _ _ hw
set_option maxRecDepth 20000 in
theorem m_J7_fill_53178 {X : Ctx} (C : Cok X cJ7_fill_53178 4 RJ7 (rmL 0) Fz0) {pl : Pool} {A_a0 : Nat} {n_a0 : Nat} {a0 : Nat → Int32} {p1 : Int32} {post : (Nat → Int32) → Prop} (hret : ∀ (w0 : Nat → Int32) (pc : Nat) (lo : List (Option Value)), post w0 → decode cJ7_fill_53178 pc = .ok (.return_, 1) → AW X 4 0 0 (w_J7_fill_53178 (cxG X) A_a0 n_a0 w0) pl pc lo []) (hw : wp_J7_fill_53178 n_a0 a0 p1 post) : AW X 4 0 0 (w_J7_fill_53178 (cxG X) A_a0 n_a0 a0) pl 0 [some (.ref A_a0), some (.int p1), none, none] [] := by
  refine a_iconst (pc := 0) C dJ7_fill_53178_0 kc_0 ?_
  refine s_istore_n (pc := 1) (i := 2) (lo' := [some (.ref A_a0), some (.int p1), some (.int 0), none]) C dJ7_fill_53178_1 rfl (by decide) rfl rfl ?_
  refine a_aload_n (pc := 2) (i := 0) C dJ7_fill_53178_2 rfl rfl ?_
  refine a_alenI (pc := 3) C dJ7_fill_53178_3 0 rfl ?_
  refine a_topi (fun x4 e_x4 => ?_)
  replace hw := hw x4 e_x4
  refine s_istore_n (pc := 4) (i := 3) (lo' := [some (.ref A_a0), some (.int p1), some (.int 0), some (.int x4)]) C dJ7_fill_53178_4 rfl (by decide) rfl rfl ?_
  obtain ⟨n5, hw⟩ := hw
  refine m_J7_fill_53178_L5 C hret (fun a0 hw => ?_) n5 _ _ _ _ hw
  exact hret _ _ _ hw dJ7_fill_53178_20
theorem c_J7_fill_53178 {l : Launch} {g : GG} {pl : Pool} (A_a0 : Nat) (n_a0 : Nat) {a0 : Nat → Int32} {p1 : Int32} {post : (Nat → Int32) → Prop} (hw : wp_J7_fill_53178 n_a0 a0 p1 post) : MV l yJ7_fill_53178 cJ7_fill_53178 4 (none : Option Jvm.ClassFile.FieldType) (rmL 0) g Fz0 [.ref A_a0, .int p1] (w_J7_fill_53178 g A_a0 n_a0 a0) pl (fun (u : (Nat → Int32)) => post u) (fun u => (w_J7_fill_53178 g A_a0 n_a0 u)) (fun _ => pl) 0 0 := by
  refine met_v (own := RJ7) rfl rfl (Nat.le_of_ble_eq_true rfl) (fun X hg hl C hini hret => ?_)
  subst hg
  subst hl
  exact m_J7_fill_53178 C (fun w0 pc lo hp hd => hret w0 pc lo hp hd) hw
abbrev w_J7_fill_fda19 (g : GG) (A_a0 : Nat) (n_a0 : Nat) (a0 : Nat → Int32) : va_W := [(A_a0, aI g n_a0 a0)]
set_option maxRecDepth 20000 in
theorem m_J7_fill_fda19_L10 {X : Ctx} (C : Cok X cJ7_fill_fda19 5 RJ7 (rmL 1) Fz0) {pl : Pool} {A_a0 : Nat} {n_a0 : Nat} {post : (Nat → Int32) → Prop} (hret : ∀ (w0 : Nat → Int32) (pc : Nat) (lo : List (Option Value)), post w0 → decode cJ7_fill_fda19 pc = .ok (.return_, 1) → AW X 5 0 0 (w_J7_fill_fda19 (cxG X) A_a0 n_a0 w0) pl pc lo []) {x_27 : (Nat → Int32) → Prop} (hx_27 : ∀ (a0 : Nat → Int32) , x_27 a0 → AW X 5 0 0 (w_J7_fill_fda19 (cxG X) A_a0 n_a0 a0) pl 27 [none, none, none, none, none] []) : ∀ (n10 : Nat) (a0 : Nat → Int32) (l2 : Int32) (l3 : Int32) (l4 : Int32) , lp (wp_J7_fill_fda19_L10 x_27 n_a0 post) n10 (a0, l2, l3, l4) → AW X 5 0 0 (w_J7_fill_fda19 (cxG X) A_a0 n_a0 a0) pl 10 [some (.ref A_a0), none, some (.int l2), some (.int l3), some (.int l4)] [] := by
  intro n10
  induction n10 with
  | zero => exact fun _ _ _ _ hw => hw.elim
  | succ n10 hkb =>
    intro a0 l2 l3 l4 hw
    replace hw : wp_J7_fill_fda19_L10 x_27 n_a0 post (lp (wp_J7_fill_fda19_L10 x_27 n_a0 post) n10) (a0, l2, l3, l4) := hw
    generalize lp (wp_J7_fill_fda19_L10 x_27 n_a0 post) n10 = kb at hw hkb
    refine a_iload (pc := 10) (i := 4) C dJ7_fill_fda19_10 rfl ?_
    refine a_iload_n (pc := 12) (i := 2) C dJ7_fill_fda19_12 rfl rfl ?_
    refine a_icmp_ge (pc := 13) (tgt := 27) C dJ7_fill_fda19_13 (by decide) (fun c_13 => ?_) (fun c_13 => ?_)
    · replace hw := hw.1 c_13
      refine a_msk [false, true, false, false, false] rfl ?_
      exact hx_27 _ hw
    · replace hw := hw.2 c_13
      refine a_aload_n (pc := 16) (i := 0) C dJ7_fill_fda19_16 rfl rfl ?_
      refine a_iload (pc := 17) (i := 4) C dJ7_fill_fda19_17 rfl ?_
      refine a_iload_n (pc := 19) (i := 3) C dJ7_fill_fda19_19 rfl rfl ?_
      obtain ⟨i_20, hw⟩ := hw
      refine a_iastW (pc := 20) C (fun h => (w_J7_fill_fda19 (cxG X) A_a0 n_a0 h)) dJ7_fill_fda19_20 0 rfl i_20 (fun _ => rfl) (fun a0_20 e_a0_20 => ?_)
      replace hw := hw a0_20 e_a0_20
      refine a_inc (pc := 21) (i := 4) C (fun y => [some (.ref A_a0), none, some (.int l2), some (.int l3), some (.int y)]) dJ7_fill_fda19_21 rfl kc_1 (by decide) rfl (fun _ => rfl) (fun y21 e_y21 => ?_)
      replace hw := hw y21 e_y21
      refine a_goto (pc := 24) (tgt := 10) C dJ7_fill_fda19_24 (by decide) ?_
      exact hkb _ _ _ _ hw
set_option maxRecDepth 20000 in
theorem m_J7_fill_fda19 {X : Ctx} (C : Cok X cJ7_fill_fda19 5 RJ7 (rmL 1) Fz0) {pl : Pool} {A_a0 : Nat} {n_a0 : Nat} {a0 : Nat → Int32} {p1 : Int32} {p2 : Int32} {p3 : Int32} {post : (Nat → Int32) → Prop} (hret : ∀ (w0 : Nat → Int32) (pc : Nat) (lo : List (Option Value)), post w0 → decode cJ7_fill_fda19 pc = .ok (.return_, 1) → AW X 5 0 0 (w_J7_fill_fda19 (cxG X) A_a0 n_a0 w0) pl pc lo []) (hw : wp_J7_fill_fda19 n_a0 a0 p1 p2 p3 post) : AW X 5 0 0 (w_J7_fill_fda19 (cxG X) A_a0 n_a0 a0) pl 0 [some (.ref A_a0), some (.int p1), some (.int p2), some (.int p3), none] [] := by
  replace hw : wp_J7_rangeCheck_23922 (nI n_a0) p1 p2 (∃ n, lp (wp_J7_fill_fda19_L10 (fun a0 => post a0) n_a0 post) n (a0, p2, p3, p1)) := hw
  refine a_aload_n (pc := 0) (i := 0) C dJ7_fill_fda19_0 rfl rfl ?_
  refine a_alenI (pc := 1) C dJ7_fill_fda19_1 0 rfl ?_
  refine a_iload_n (pc := 2) (i := 1) C dJ7_fill_fda19_2 rfl rfl ?_
  refine a_iload_n (pc := 3) (i := 2) C dJ7_fill_fda19_3 rfl rfl ?_
  refine a_callSv (pc := 4) (As := [.int (nI n_a0), .int p1, .int p2]) (st := []) (ws' := (fun _ => (w_J7_fill_fda19 (cxG X) A_a0 n_a0 a0))) C (c_J7_rangeCheck_23922 hw) dJ7_fill_fda19_4 mth_J7_rangeCheck_23922 tml_J7_13 (fun _ _ h => trivial) Fz0_ok (rml (by decide) (by decide)) (Nat.le_of_ble_eq_true rfl) rfl rfl [] [0] [0] rfl rfl rfl rfl rfl rfl (fun _ => rfl) rfl (fun _ => rfl) (fun u hw => ?_)
  show AW X 5 0 0 (w_J7_fill_fda19 (cxG X) A_a0 n_a0 a0) pl 7 [some (.ref A_a0), some (.int p1), some (.int p2), some (.int p3), none] []
  refine a_iload_n (pc := 7) (i := 1) C dJ7_fill_fda19_7 rfl rfl ?_
  refine s_istore (pc := 8) (i := 4) (lo' := [some (.ref A_a0), some (.int p1), some (.int p2), some (.int p3), some (.int p1)]) C dJ7_fill_fda19_8 (by decide) rfl rfl ?_
  refine a_msk [true, false, true, true, true] rfl ?_
  obtain ⟨n10, hw⟩ := hw
  refine m_J7_fill_fda19_L10 C hret (fun a0 hw => ?_) n10 _ _ _ _ hw
  exact hret _ _ _ hw dJ7_fill_fda19_27
theorem c_J7_fill_fda19 {l : Launch} {g : GG} {pl : Pool} (A_a0 : Nat) (n_a0 : Nat) {a0 : Nat → Int32} {p1 : Int32} {p2 : Int32} {p3 : Int32} {post : (Nat → Int32) → Prop} (hw : wp_J7_fill_fda19 n_a0 a0 p1 p2 p3 post) : MV l yJ7_fill_fda19 cJ7_fill_fda19 5 (none : Option Jvm.ClassFile.FieldType) (rmL 1) g Fz0 [.ref A_a0, .int p1, .int p2, .int p3] (w_J7_fill_fda19 g A_a0 n_a0 a0) pl (fun (u : (Nat → Int32)) => post u) (fun u => (w_J7_fill_fda19 g A_a0 n_a0 u)) (fun _ => pl) 0 0 := by
  refine met_v (own := RJ7) rfl rfl (Nat.le_of_ble_eq_true rfl) (fun X hg hl C hini hret => ?_)
  subst hg
  subst hl
  exact m_J7_fill_fda19 C (fun w0 pc lo hp hd => hret w0 pc lo hp hd) hw
abbrev w_J13_bitCount_95d88 (g : GG) : va_W := []
set_option maxRecDepth 20000 in
theorem m_J13_bitCount_95d88 {X : Ctx} (C : Cok X cJ13_bitCount_95d88 2 RJ13 (rmL 0) Fz0) {pl : Pool} {p0 : Int64} {post : Int32 → Prop} (hret : ∀ (r : Int32) (pc : Nat) (lo : List (Option Value)), post r → decode cJ13_bitCount_95d88 pc = .ok (.ireturn, 1) → AW X 2 0 0 (w_J13_bitCount_95d88 (cxG X)) pl pc lo [.int r]) (hw : wp_J13_bitCount_95d88 p0 post) : AW X 2 0 0 (w_J13_bitCount_95d88 (cxG X)) pl 0 [some (.long p0), none] [] := by
  refine a_lload_n (pc := 0) (i := 0) C dJ13_bitCount_95d88_0 rfl rfl ?_
  refine a_lload_n (pc := 1) (i := 0) C dJ13_bitCount_95d88_1 rfl rfl ?_
  refine a_iconst (pc := 2) C dJ13_bitCount_95d88_2 kc_1 ?_
  refine a_lushr (pc := 3) C dJ13_bitCount_95d88_3 ?_
  refine a_ldc2 (pc := 4) C dJ13_bitCount_95d88_4 tk_J13_314 ?_
  refine a_land (pc := 7) C dJ13_bitCount_95d88_7 ?_
  refine a_lsub (pc := 8) C dJ13_bitCount_95d88_8 ?_
  refine a_topl (fun x9 e_x9 => ?_)
  replace hw := hw x9 e_x9
  refine s_lstore_n (pc := 9) (i := 0) (lo' := [some (.long x9), none]) C dJ13_bitCount_95d88_9 rfl (by decide) rfl rfl ?_
  refine a_lload_n (pc := 10) (i := 0) C dJ13_bitCount_95d88_10 rfl rfl ?_
  refine a_ldc2 (pc := 11) C dJ13_bitCount_95d88_11 tk_J13_316 ?_
  refine a_land (pc := 14) C dJ13_bitCount_95d88_14 ?_
  refine a_lload_n (pc := 15) (i := 0) C dJ13_bitCount_95d88_15 rfl rfl ?_
  refine a_iconst (pc := 16) C dJ13_bitCount_95d88_16 kc_2 ?_
  refine a_lushr (pc := 17) C dJ13_bitCount_95d88_17 ?_
  refine a_ldc2 (pc := 18) C dJ13_bitCount_95d88_18 tk_J13_316 ?_
  refine a_land (pc := 21) C dJ13_bitCount_95d88_21 ?_
  refine a_ladd (pc := 22) C dJ13_bitCount_95d88_22 ?_
  refine a_topl (fun x23 e_x23 => ?_)
  replace hw := hw x23 e_x23
  refine s_lstore_n (pc := 23) (i := 0) (lo' := [some (.long x23), none]) C dJ13_bitCount_95d88_23 rfl (by decide) rfl rfl ?_
  refine a_lload_n (pc := 24) (i := 0) C dJ13_bitCount_95d88_24 rfl rfl ?_
  refine a_lload_n (pc := 25) (i := 0) C dJ13_bitCount_95d88_25 rfl rfl ?_
  refine a_iconst (pc := 26) C dJ13_bitCount_95d88_26 kc_4 ?_
  refine a_lushr (pc := 27) C dJ13_bitCount_95d88_27 ?_
  refine a_ladd (pc := 28) C dJ13_bitCount_95d88_28 ?_
  refine a_ldc2 (pc := 29) C dJ13_bitCount_95d88_29 tk_J13_318 ?_
  refine a_land (pc := 32) C dJ13_bitCount_95d88_32 ?_
  refine a_topl (fun x33 e_x33 => ?_)
  replace hw := hw x33 e_x33
  refine s_lstore_n (pc := 33) (i := 0) (lo' := [some (.long x33), none]) C dJ13_bitCount_95d88_33 rfl (by decide) rfl rfl ?_
  refine a_lload_n (pc := 34) (i := 0) C dJ13_bitCount_95d88_34 rfl rfl ?_
  refine a_lload_n (pc := 35) (i := 0) C dJ13_bitCount_95d88_35 rfl rfl ?_
  refine a_bipush (pc := 36) C dJ13_bitCount_95d88_36 kb_8 ?_
  refine a_lushr (pc := 38) C dJ13_bitCount_95d88_38 ?_
  refine a_ladd (pc := 39) C dJ13_bitCount_95d88_39 ?_
  refine a_topl (fun x40 e_x40 => ?_)
  replace hw := hw x40 e_x40
  refine s_lstore_n (pc := 40) (i := 0) (lo' := [some (.long x40), none]) C dJ13_bitCount_95d88_40 rfl (by decide) rfl rfl ?_
  refine a_lload_n (pc := 41) (i := 0) C dJ13_bitCount_95d88_41 rfl rfl ?_
  refine a_lload_n (pc := 42) (i := 0) C dJ13_bitCount_95d88_42 rfl rfl ?_
  refine a_bipush (pc := 43) C dJ13_bitCount_95d88_43 kb_16 ?_
  refine a_lushr (pc := 45) C dJ13_bitCount_95d88_45 ?_
  refine a_ladd (pc := 46) C dJ13_bitCount_95d88_46 ?_
  refine a_topl (fun x47 e_x47 => ?_)
  replace hw := hw x47 e_x47
  refine s_lstore_n (pc := 47) (i := 0) (lo' := [some (.long x47), none]) C dJ13_bitCount_95d88_47 rfl (by decide) rfl rfl ?_
  refine a_lload_n (pc := 48) (i := 0) C dJ13_bitCount_95d88_48 rfl rfl ?_
  refine a_lload_n (pc := 49) (i := 0) C dJ13_bitCount_95d88_49 rfl rfl ?_
  refine a_bipush (pc := 50) C dJ13_bitCount_95d88_50 kb_32 ?_
  refine a_lushr (pc := 52) C dJ13_bitCount_95d88_52 ?_
  refine a_ladd (pc := 53) C dJ13_bitCount_95d88_53 ?_
  refine a_topl (fun x54 e_x54 => ?_)
  replace hw := hw x54 e_x54
  refine s_lstore_n (pc := 54) (i := 0) (lo' := [some (.long x54), none]) C dJ13_bitCount_95d88_54 rfl (by decide) rfl rfl ?_
  refine a_lload_n (pc := 55) (i := 0) C dJ13_bitCount_95d88_55 rfl rfl ?_
  refine a_l2i (pc := 56) C dJ13_bitCount_95d88_56 ?_
  refine a_bipush (pc := 57) C dJ13_bitCount_95d88_57 kb_127 ?_
  refine a_iand (pc := 59) C dJ13_bitCount_95d88_59 ?_
  exact hret _ _ _ hw dJ13_bitCount_95d88_60
theorem c_J13_bitCount_95d88 {l : Launch} {g : GG} {pl : Pool} {p0 : Int64} {post : Int32 → Prop} (hw : wp_J13_bitCount_95d88 p0 post) : MI l yJ13_bitCount_95d88 cJ13_bitCount_95d88 2 (some .int) (rmL 0) g Fz0 [.long p0] (w_J13_bitCount_95d88 g) pl (fun r (_ : Unit) => post r) (fun _ => (w_J13_bitCount_95d88 g)) (fun _ => pl) 0 0 := by
  refine met_i (own := RJ13) rfl rfl (Nat.le_of_ble_eq_true rfl) (fun X hg hl C hini hret => ?_)
  subst hg
  subst hl
  exact m_J13_bitCount_95d88 C (fun r pc lo hp hd => hret r () pc lo hp hd) hw
abbrev w_J6_bitCount_0f7a4 (g : GG) : va_W := []
set_option maxRecDepth 20000 in
theorem m_J6_bitCount_0f7a4 {X : Ctx} (C : Cok X cJ6_bitCount_0f7a4 1 RJ6 (rmL 0) Fz0) {pl : Pool} {p0 : Int32} {post : Int32 → Prop} (hret : ∀ (r : Int32) (pc : Nat) (lo : List (Option Value)), post r → decode cJ6_bitCount_0f7a4 pc = .ok (.ireturn, 1) → AW X 1 0 0 (w_J6_bitCount_0f7a4 (cxG X)) pl pc lo [.int r]) (hw : wp_J6_bitCount_0f7a4 p0 post) : AW X 1 0 0 (w_J6_bitCount_0f7a4 (cxG X)) pl 0 [some (.int p0)] [] := by
  refine a_iload_n (pc := 0) (i := 0) C dJ6_bitCount_0f7a4_0 rfl rfl ?_
  refine a_iload_n (pc := 1) (i := 0) C dJ6_bitCount_0f7a4_1 rfl rfl ?_
  refine a_iconst (pc := 2) C dJ6_bitCount_0f7a4_2 kc_1 ?_
  refine a_iushr (pc := 3) C dJ6_bitCount_0f7a4_3 ?_
  refine a_ldcw (pc := 4) C dJ6_bitCount_0f7a4_4 tk_J6_265 ?_
  refine a_iand (pc := 7) C dJ6_bitCount_0f7a4_7 ?_
  refine a_isub (pc := 8) C dJ6_bitCount_0f7a4_8 ?_
  refine a_topi (fun x9 e_x9 => ?_)
  replace hw := hw x9 e_x9
  refine s_istore_n (pc := 9) (i := 0) (lo' := [some (.int x9)]) C dJ6_bitCount_0f7a4_9 rfl (by decide) rfl rfl ?_
  refine a_iload_n (pc := 10) (i := 0) C dJ6_bitCount_0f7a4_10 rfl rfl ?_
  refine a_ldcw (pc := 11) C dJ6_bitCount_0f7a4_11 tk_J6_266 ?_
  refine a_iand (pc := 14) C dJ6_bitCount_0f7a4_14 ?_
  refine a_iload_n (pc := 15) (i := 0) C dJ6_bitCount_0f7a4_15 rfl rfl ?_
  refine a_iconst (pc := 16) C dJ6_bitCount_0f7a4_16 kc_2 ?_
  refine a_iushr (pc := 17) C dJ6_bitCount_0f7a4_17 ?_
  refine a_ldcw (pc := 18) C dJ6_bitCount_0f7a4_18 tk_J6_266 ?_
  refine a_iand (pc := 21) C dJ6_bitCount_0f7a4_21 ?_
  refine a_iadd (pc := 22) C dJ6_bitCount_0f7a4_22 ?_
  refine a_topi (fun x23 e_x23 => ?_)
  replace hw := hw x23 e_x23
  refine s_istore_n (pc := 23) (i := 0) (lo' := [some (.int x23)]) C dJ6_bitCount_0f7a4_23 rfl (by decide) rfl rfl ?_
  refine a_iload_n (pc := 24) (i := 0) C dJ6_bitCount_0f7a4_24 rfl rfl ?_
  refine a_iload_n (pc := 25) (i := 0) C dJ6_bitCount_0f7a4_25 rfl rfl ?_
  refine a_iconst (pc := 26) C dJ6_bitCount_0f7a4_26 kc_4 ?_
  refine a_iushr (pc := 27) C dJ6_bitCount_0f7a4_27 ?_
  refine a_iadd (pc := 28) C dJ6_bitCount_0f7a4_28 ?_
  refine a_ldcw (pc := 29) C dJ6_bitCount_0f7a4_29 tk_J6_267 ?_
  refine a_iand (pc := 32) C dJ6_bitCount_0f7a4_32 ?_
  refine a_topi (fun x33 e_x33 => ?_)
  replace hw := hw x33 e_x33
  refine s_istore_n (pc := 33) (i := 0) (lo' := [some (.int x33)]) C dJ6_bitCount_0f7a4_33 rfl (by decide) rfl rfl ?_
  refine a_iload_n (pc := 34) (i := 0) C dJ6_bitCount_0f7a4_34 rfl rfl ?_
  refine a_iload_n (pc := 35) (i := 0) C dJ6_bitCount_0f7a4_35 rfl rfl ?_
  refine a_bipush (pc := 36) C dJ6_bitCount_0f7a4_36 kb_8 ?_
  refine a_iushr (pc := 38) C dJ6_bitCount_0f7a4_38 ?_
  refine a_iadd (pc := 39) C dJ6_bitCount_0f7a4_39 ?_
  refine a_topi (fun x40 e_x40 => ?_)
  replace hw := hw x40 e_x40
  refine s_istore_n (pc := 40) (i := 0) (lo' := [some (.int x40)]) C dJ6_bitCount_0f7a4_40 rfl (by decide) rfl rfl ?_
  refine a_iload_n (pc := 41) (i := 0) C dJ6_bitCount_0f7a4_41 rfl rfl ?_
  refine a_iload_n (pc := 42) (i := 0) C dJ6_bitCount_0f7a4_42 rfl rfl ?_
  refine a_bipush (pc := 43) C dJ6_bitCount_0f7a4_43 kb_16 ?_
  refine a_iushr (pc := 45) C dJ6_bitCount_0f7a4_45 ?_
  refine a_iadd (pc := 46) C dJ6_bitCount_0f7a4_46 ?_
  refine a_topi (fun x47 e_x47 => ?_)
  replace hw := hw x47 e_x47
  refine s_istore_n (pc := 47) (i := 0) (lo' := [some (.int x47)]) C dJ6_bitCount_0f7a4_47 rfl (by decide) rfl rfl ?_
  refine a_iload_n (pc := 48) (i := 0) C dJ6_bitCount_0f7a4_48 rfl rfl ?_
  refine a_bipush (pc := 49) C dJ6_bitCount_0f7a4_49 kb_63 ?_
  refine a_iand (pc := 51) C dJ6_bitCount_0f7a4_51 ?_
  exact hret _ _ _ hw dJ6_bitCount_0f7a4_52
theorem c_J6_bitCount_0f7a4 {l : Launch} {g : GG} {pl : Pool} {p0 : Int32} {post : Int32 → Prop} (hw : wp_J6_bitCount_0f7a4 p0 post) : MI l yJ6_bitCount_0f7a4 cJ6_bitCount_0f7a4 1 (some .int) (rmL 0) g Fz0 [.int p0] (w_J6_bitCount_0f7a4 g) pl (fun r (_ : Unit) => post r) (fun _ => (w_J6_bitCount_0f7a4 g)) (fun _ => pl) 0 0 := by
  refine met_i (own := RJ6) rfl rfl (Nat.le_of_ble_eq_true rfl) (fun X hg hl C hini hret => ?_)
  subst hg
  subst hl
  exact m_J6_bitCount_0f7a4 C (fun r pc lo hp hd => hret r () pc lo hp hd) hw
