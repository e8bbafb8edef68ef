abbrev w_J0_coder_7d493 (g : GG) : va_W := []
set_option maxRecDepth 20000 in
theorem m_J0_coder_7d493 {X : Ctx} {ka : KA} (C : Cok X cJ0_coder_7d493 1 RJ0 (rmL 0) (FzC ka)) {ki : Nat} (hki : ki < 2) {pl : Pool} {post : Int32 → Prop} (hret : ∀ (r : Int32) (pc : Nat) (lo : List (Option Value)), narrow .byte (.int r) = .int r → post r → decode cJ0_coder_7d493 pc = .ok (.ireturn, 1) → AW X 1 0 0 (w_J0_coder_7d493 (cxG X)) pl pc lo [.int r]) (hw : wp_J0_coder_7d493 ki post) : AW X 1 0 0 (w_J0_coder_7d493 (cxG X)) pl 0 [some (.ref (ka.1 ki))] [] := by
  refine a_cst (pc := 0) C tfl_J0_38 dJ0_coder_7d493_0 ?_
  refine a_if_eq (pc := 3) (tgt := 13) C dJ0_coder_7d493_3 (by decide) (fun c_3 => ?_) (fun c_3 => ?_)
  · replace hw := hw.1 c_3
    refine a_iconst (pc := 13) C dJ0_coder_7d493_13 kc_1 ?_
    obtain ⟨z_14, hw⟩ := hw
    exact hret _ _ _ z_14 hw dJ0_coder_7d493_14
  · replace hw := hw.2 c_3
    refine a_aload_n (pc := 6) (i := 0) C dJ0_coder_7d493_6 rfl rfl ?_
    refine a_kcod (pc := 7) C tfl_J0_15 hki dJ0_coder_7d493_7 ?_
    refine a_goto (pc := 10) (tgt := 14) C dJ0_coder_7d493_10 (by decide) ?_
    obtain ⟨z_14, hw⟩ := hw
    exact hret _ _ _ z_14 hw dJ0_coder_7d493_14
theorem c_J0_coder_7d493 {ka : KA} {ki : Nat} (hki : ki < 2) {l : Launch} {g : GG} {pl : Pool} {post : Int32 → Prop} (hw : wp_J0_coder_7d493 ki post) : MI l yJ0_coder_7d493 cJ0_coder_7d493 1 (some .byte) (rmL 0) g (FzC ka) [.ref (ka.1 ki)] (w_J0_coder_7d493 g) pl (fun r (_ : Unit) => narrow .byte (.int r) = .int r ∧ post r) (fun _ => (w_J0_coder_7d493 g)) (fun _ => pl) 0 0 := by
  refine met_b (own := RJ0) rfl rfl (Nat.le_of_ble_eq_true rfl) (fun X hg hl C hini hret => ?_)
  subst hg
  subst hl
  exact m_J0_coder_7d493 C hki (fun r pc lo z hp hd => hret r () pc lo z hp hd) hw
abbrev w_J0_isLatin1_aae02 (g : GG) : va_W := []
set_option maxRecDepth 20000 in
theorem m_J0_isLatin1_aae02 {X : Ctx} {ka : KA} (C : Cok X cJ0_isLatin1_aae02 1 RJ0 (rmL 0) (FzC ka)) {ki : Nat} (hki : ki < 2) {pl : Pool} {post : Int32 → Prop} (hret : ∀ (r : Int32) (pc : Nat) (lo : List (Option Value)), b01 r → post r → decode cJ0_isLatin1_aae02 pc = .ok (.ireturn, 1) → AW X 1 0 0 (w_J0_isLatin1_aae02 (cxG X)) pl pc lo [.int r]) (hw : wp_J0_isLatin1_aae02 ki post) : AW X 1 0 0 (w_J0_isLatin1_aae02 (cxG X)) pl 0 [some (.ref (ka.1 ki))] [] := by
  refine a_cst (pc := 0) C tfl_J0_38 dJ0_isLatin1_aae02_0 ?_
  refine a_if_eq (pc := 3) (tgt := 17) C dJ0_isLatin1_aae02_3 (by decide) (fun c_3 => ?_) (fun c_3 => ?_)
  · replace hw := hw.1 c_3
    refine a_iconst (pc := 17) C dJ0_isLatin1_aae02_17 kc_0 ?_
    exact hret _ _ _ (Or.inl rfl) hw dJ0_isLatin1_aae02_18
  · replace hw := hw.2 c_3
    refine a_aload_n (pc := 6) (i := 0) C dJ0_isLatin1_aae02_6 rfl rfl ?_
    refine a_kcod (pc := 7) C tfl_J0_15 hki dJ0_isLatin1_aae02_7 ?_
    refine a_if_ne (pc := 10) (tgt := 17) C dJ0_isLatin1_aae02_10 (by decide) (fun c_10 => ?_) (fun c_10 => ?_)
    · replace hw := hw.1 c_10
      refine a_iconst (pc := 17) C dJ0_isLatin1_aae02_17 kc_0 ?_
      exact hret _ _ _ (Or.inl rfl) hw dJ0_isLatin1_aae02_18
    · replace hw := hw.2 c_10
      refine a_iconst (pc := 13) C dJ0_isLatin1_aae02_13 kc_1 ?_
      refine a_goto (pc := 14) (tgt := 18) C dJ0_isLatin1_aae02_14 (by decide) ?_
      exact hret _ _ _ (Or.inr rfl) hw dJ0_isLatin1_aae02_18
theorem c_J0_isLatin1_aae02 {ka : KA} {ki : Nat} (hki : ki < 2) {l : Launch} {g : GG} {pl : Pool} {post : Int32 → Prop} (hw : wp_J0_isLatin1_aae02 ki post) : MI l yJ0_isLatin1_aae02 cJ0_isLatin1_aae02 1 (some .boolean) (rmL 0) g (FzC ka) [.ref (ka.1 ki)] (w_J0_isLatin1_aae02 g) pl (fun r (_ : Unit) => b01 r ∧ post r) (fun _ => (w_J0_isLatin1_aae02 g)) (fun _ => pl) 0 0 := by
  refine mi_b01 ?_
  refine met_z (own := RJ0) rfl rfl (Nat.le_of_ble_eq_true rfl) (fun X hg hl C hini hret => ?_)
  subst hg
  subst hl
  exact m_J0_isLatin1_aae02 C hki (fun r pc lo z hp hd => hret r () pc lo (b01_nar z) hp hd) hw
abbrev w_J0_length_8abf5 (g : GG) : va_W := []
set_option maxRecDepth 20000 in
theorem m_J0_length_8abf5 {X : Ctx} {ka : KA} (C : Cok X cJ0_length_8abf5 1 RJ0 (rmL 1) (FzC ka)) {ki : Nat} (hki : ki < 2) {pl : Pool} {post : Int32 → Prop} (hret : ∀ (r : Int32) (pc : Nat) (lo : List (Option Value)), post r → decode cJ0_length_8abf5 pc = .ok (.ireturn, 1) → AW X 1 0 0 (w_J0_length_8abf5 (cxG X)) pl pc lo [.int r]) (hw : wp_J0_length_8abf5 ki post) : AW X 1 0 0 (w_J0_length_8abf5 (cxG X)) pl 0 [some (.ref (ka.1 ki))] [] := by
  replace hw : wp_J0_coder_7d493 ki (fun r6 => post ((nI (kLen.getD ki 0)) >>> (r6 &&& 31))) := hw
  refine a_aload_n (pc := 0) (i := 0) C dJ0_length_8abf5_0 rfl rfl ?_
  refine a_kval (pc := 1) C tfl_J0_9 hki dJ0_length_8abf5_1 ?_
  refine a_klen (pc := 4) C hki dJ0_length_8abf5_4 ?_
  refine a_aload_n (pc := 5) (i := 0) C dJ0_length_8abf5_5 rfl rfl ?_
  refine a_callKi (pc := 6) (ki := ki) (As := []) (st := [.int (nI (kLen.getD ki 0))]) (ws' := (fun _ => (w_J0_length_8abf5 (cxG X)))) C hki rfl (c_J0_coder_7d493 (ki := ki) hki hw) dJ0_length_8abf5_6 mth_J0_coder_7d493 tml_J0_335 (fun _ _ h => h) (FzC_ok ka) (rml (by decide) (by decide)) (Nat.le_of_ble_eq_true rfl) rfl rfl [] [] [] rfl rfl rfl rfl rfl rfl (fun _ => rfl) rfl (fun _ => rfl) (fun r6 u hw => ?_)
  obtain ⟨z_6, hw⟩ := hw
  show AW X 1 0 0 (w_J0_length_8abf5 (cxG X)) pl 9 [some (.ref (ka.1 ki))] [.int r6, .int (nI (kLen.getD ki 0))]
  refine a_ishr (pc := 9) C dJ0_length_8abf5_9 ?_
  exact hret _ _ _ hw dJ0_length_8abf5_10
theorem c_J0_length_8abf5 {ka : KA} {ki : Nat} (hki : ki < 2) {l : Launch} {g : GG} {pl : Pool} {post : Int32 → Prop} (hw : wp_J0_length_8abf5 ki post) : MI l yJ0_length_8abf5 cJ0_length_8abf5 1 (some .int) (rmL 1) g (FzC ka) [.ref (ka.1 ki)] (w_J0_length_8abf5 g) pl (fun r (_ : Unit) => post r) (fun _ => (w_J0_length_8abf5 g)) (fun _ => pl) 0 0 := by
  refine met_i (own := RJ0) rfl rfl (Nat.le_of_ble_eq_true rfl) (fun X hg hl C hini hret => ?_)
  subst hg
  subst hl
  exact m_J0_length_8abf5 C hki (fun r pc lo hp hd => hret r () pc lo hp hd) hw
abbrev w_J3_checkIndex_8e157 (g : GG) : va_W := []
set_option maxRecDepth 20000 in
theorem m_J3_checkIndex_8e157_b9 {X : Ctx} {ka : KA} (C : Cok X cJ3_checkIndex_8e157 3 RJ3 (rmL 0) (FzC ka)) {pl : Pool} {post : Int32 → Prop} (hret : ∀ (r : Int32) (pc : Nat) (lo : List (Option Value)), post r → decode cJ3_checkIndex_8e157 pc = .ok (.ireturn, 1) → AW X 3 0 0 (w_J3_checkIndex_8e157 (cxG X)) pl pc lo [.int r]) {l0 : Int32} {l1 : Int32} {l2 : Option Nat} (hw : wp_J3_checkIndex_8e157_b9  post l0 l1 l2) : AW X 3 0 0 (w_J3_checkIndex_8e157 (cxG X)) pl 9 [some (.int l0), some (.int l1), some (va_rf l2)] [] := by
  refine a_aload_nO (pc := 9) (i := 2) C dJ3_checkIndex_8e157_9 rfl rfl ?_
  refine a_iload_n (pc := 10) (i := 0) C dJ3_checkIndex_8e157_10 rfl rfl ?_
  refine a_iload_n (pc := 11) (i := 1) C dJ3_checkIndex_8e157_11 rfl rfl ?_
  exact hw.elim
set_option maxRecDepth 20000 in
theorem m_J3_checkIndex_8e157 {X : Ctx} {ka : KA} (C : Cok X cJ3_checkIndex_8e157 3 RJ3 (rmL 0) (FzC ka)) {pl : Pool} {p0 : Int32} {p1 : Int32} {p2 : Option Nat} {post : Int32 → Prop} (hret : ∀ (r : Int32) (pc : Nat) (lo : List (Option Value)), post r → decode cJ3_checkIndex_8e157 pc = .ok (.ireturn, 1) → AW X 3 0 0 (w_J3_checkIndex_8e157 (cxG X)) pl pc lo [.int r]) (hw : wp_J3_checkIndex_8e157 p0 p1 p2 post) : AW X 3 0 0 (w_J3_checkIndex_8e157 (cxG X)) pl 0 [some (.int p0), some (.int p1), some (va_rf p2)] [] := by
  refine a_iload_n (pc := 0) (i := 0) C dJ3_checkIndex_8e157_0 rfl rfl ?_
  refine a_if_lt (pc := 1) (tgt := 9) C dJ3_checkIndex_8e157_1 (by decide) (fun c_1 => ?_) (fun c_1 => ?_)
  · replace hw := hw.1 c_1
    exact m_J3_checkIndex_8e157_b9 C hret hw
  · replace hw := hw.2 c_1
    refine a_iload_n (pc := 4) (i := 0) C dJ3_checkIndex_8e157_4 rfl rfl ?_
    refine a_iload_n (pc := 5) (i := 1) C dJ3_checkIndex_8e157_5 rfl rfl ?_
    refine a_icmp_lt (pc := 6) (tgt := 16) C dJ3_checkIndex_8e157_6 (by decide) (fun c_6 => ?_) (fun c_6 => ?_)
    · replace hw := hw.1 c_6
      refine a_iload_n (pc := 16) (i := 0) C dJ3_checkIndex_8e157_16 rfl rfl ?_
      exact hret _ _ _ hw dJ3_checkIndex_8e157_17
    · replace hw := hw.2 c_6
      exact m_J3_checkIndex_8e157_b9 C hret hw
theorem c_J3_checkIndex_8e157 {ka : KA} {l : Launch} {g : GG} {pl : Pool} {p0 : Int32} {p1 : Int32} {p2 : Option Nat} {post : Int32 → Prop} (hw : wp_J3_checkIndex_8e157 p0 p1 p2 post) : MI l yJ3_checkIndex_8e157 cJ3_checkIndex_8e157 3 (some .int) (rmL 0) g (FzC ka) [.int p0, .int p1, va_rf p2] (w_J3_checkIndex_8e157 g) pl (fun r (_ : Unit) => post r) (fun _ => (w_J3_checkIndex_8e157 g)) (fun _ => pl) 0 0 := by
  cases p2 with
  | none =>
    refine met_i (own := RJ3) rfl rfl (Nat.le_of_ble_eq_true rfl) (fun X hg hl C hini hret => ?_)
    subst hg
    subst hl
    exact m_J3_checkIndex_8e157 C (fun r pc lo hp hd => hret r () pc lo hp hd) hw
  | some q =>
    refine met_i (own := RJ3) rfl rfl (Nat.le_of_ble_eq_true rfl) (fun X hg hl C hini hret => ?_)
    subst hg
    subst hl
    exact m_J3_checkIndex_8e157 C (fun r pc lo hp hd => hret r () pc lo hp hd) hw
abbrev w_J0_checkIndex_df160 (g : GG) : va_W := []
set_option maxRecDepth 20000 in
theorem m_J0_checkIndex_df160 {X : Ctx} {ka : KA} (C : Cok X cJ0_checkIndex_df160 2 RJ0 (rmL 1) (FzC ka)) {pl : Pool} {p0 : Int32} {p1 : Int32} {post : Prop} (hret : ∀ (pc : Nat) (lo : List (Option Value)), post → decode cJ0_checkIndex_df160 pc = .ok (.return_, 1) → AW X 2 0 0 (w_J0_checkIndex_df160 (cxG X)) pl pc lo []) (hw : wp_J0_checkIndex_df160 p0 p1 post) : AW X 2 0 0 (w_J0_checkIndex_df160 (cxG X)) pl 0 [some (.int p0), some (.int p1)] [] := by
  refine a_iload_n (pc := 0) (i := 0) C dJ0_checkIndex_df160_0 rfl rfl ?_
  refine a_iload_n (pc := 1) (i := 1) C dJ0_checkIndex_df160_1 rfl rfl ?_
  refine a_fmt (pc := 2) C tfl_J0_1053 dJ0_checkIndex_df160_2 (fun g2 => ?_)
  replace hw := hw g2
  refine a_callSi (pc := 5) (As := [.int p0, .int p1, va_rf g2]) (st := []) (ws' := (fun _ => (w_J0_checkIndex_df160 (cxG X)))) C (c_J3_checkIndex_8e157 hw) dJ0_checkIndex_df160_5 mth_J3_checkIndex_8e157 tml_J0_1059 (fun _ _ h => h) (FzC_ok ka) (rml (by decide) (by decide)) (Nat.le_of_ble_eq_true rfl) rfl rfl [] [] [] rfl rfl rfl rfl rfl rfl (fun _ => rfl) rfl (fun _ => rfl) (fun r5 u hw => ?_)
  show AW X 2 0 0 (w_J0_checkIndex_df160 (cxG X)) pl 8 [some (.int p0), some (.int p1)] [.int r5]
  refine a_pop (pc := 8) C dJ0_checkIndex_df160_8 rfl ?_
  exact hret  _ _ hw dJ0_checkIndex_df160_9
theorem c_J0_checkIndex_df160 {ka : KA} {l : Launch} {g : GG} {pl : Pool} {p0 : Int32} {p1 : Int32} {post : Prop} (hw : wp_J0_checkIndex_df160 p0 p1 post) : MV l yJ0_checkIndex_df160 cJ0_checkIndex_df160 2 (none : Option Jvm.ClassFile.FieldType) (rmL 1) g (FzC ka) [.int p0, .int p1] (w_J0_checkIndex_df160 g) pl (fun (_ : Unit) => post) (fun _ => (w_J0_checkIndex_df160 g)) (fun _ => pl) 0 0 := by
  refine met_v (own := RJ0) rfl rfl (Nat.le_of_ble_eq_true rfl) (fun X hg hl C hini hret => ?_)
  subst hg
  subst hl
  exact m_J0_checkIndex_df160 C (fun pc lo hp hd => hret () pc lo hp hd) hw
abbrev w_J1_charAt_3b067 (g : GG) : va_W := []
set_option maxRecDepth 20000 in
theorem m_J1_charAt_3b067 {X : Ctx} {ka : KA} (C : Cok X cJ1_charAt_3b067 2 RJ1 (rmL 2) (FzC ka)) {ki : Nat} (hki : ki < 2) {pl : Pool} {p1 : Int32} {post : Int32 → Prop} (hret : ∀ (r : Int32) (pc : Nat) (lo : List (Option Value)), narrow .char (.int r) = .int r → post r → decode cJ1_charAt_3b067 pc = .ok (.ireturn, 1) → AW X 2 0 0 (w_J1_charAt_3b067 (cxG X)) pl pc lo [.int r]) (hw : wp_J1_charAt_3b067 ki p1 post) : AW X 2 0 0 (w_J1_charAt_3b067 (cxG X)) pl 0 [some (.ref (ka.2 ki)), some (.int p1)] [] := by
  replace hw : wp_J0_checkIndex_df160 p1 (nI (kLen.getD ki 0)) (vp_in p1 (kLen.getD ki 0) ∧ (narrow .char (.int ((Int32.toUInt32 (((kByt.getD ki []).getD (Int32.toNatClampNeg p1) 0) &&& 255) % 65536).toInt32)) = .int ((Int32.toUInt32 (((kByt.getD ki []).getD (Int32.toNatClampNeg p1) 0) &&& 255) % 65536).toInt32) ∧ (post ((Int32.toUInt32 (((kByt.getD ki []).getD (Int32.toNatClampNeg p1) 0) &&& 255) % 65536).toInt32)))) := hw
  refine a_iload_n (pc := 0) (i := 1) C dJ1_charAt_3b067_0 rfl rfl ?_
  refine a_aload_n (pc := 1) (i := 0) C dJ1_charAt_3b067_1 rfl rfl ?_
  refine a_klen (pc := 2) C hki dJ1_charAt_3b067_2 ?_
  refine a_callSv (pc := 3) (As := [.int p1, .int (nI (kLen.getD ki 0))]) (st := []) (ws' := (fun _ => (w_J1_charAt_3b067 (cxG X)))) C (c_J0_checkIndex_df160 hw) dJ1_charAt_3b067_3 mth_J0_checkIndex_df160 tml_J1_9 (fun _ _ h => h) (FzC_ok ka) (rml (by decide) (by decide)) (Nat.le_of_ble_eq_true rfl) rfl rfl [] [] [] rfl rfl rfl rfl rfl rfl (fun _ => rfl) rfl (fun _ => rfl) (fun u hw => ?_)
  show AW X 2 0 0 (w_J1_charAt_3b067 (cxG X)) pl 6 [some (.ref (ka.2 ki)), some (.int p1)] []
  refine a_aload_n (pc := 6) (i := 0) C dJ1_charAt_3b067_6 rfl rfl ?_
  refine a_iload_n (pc := 7) (i := 1) C dJ1_charAt_3b067_7 rfl rfl ?_
  obtain ⟨i_8, hw⟩ := hw
  refine a_kbal (pc := 8) C hki dJ1_charAt_3b067_8 i_8 ?_
  refine a_sipush (pc := 9) C dJ1_charAt_3b067_9 ks_255 ?_
  refine a_iand (pc := 12) C dJ1_charAt_3b067_12 ?_
  refine a_i2c (pc := 13) C dJ1_charAt_3b067_13 ?_
  obtain ⟨z_14, hw⟩ := hw
  exact hret _ _ _ z_14 hw dJ1_charAt_3b067_14
theorem c_J1_charAt_3b067 {ka : KA} {ki : Nat} (hki : ki < 2) {l : Launch} {g : GG} {pl : Pool} {p1 : Int32} {post : Int32 → Prop} (hw : wp_J1_charAt_3b067 ki p1 post) : MI l yJ1_charAt_3b067 cJ1_charAt_3b067 2 (some .char) (rmL 2) g (FzC ka) [.ref (ka.2 ki), .int p1] (w_J1_charAt_3b067 g) pl (fun r (_ : Unit) => narrow .char (.int r) = .int r ∧ post r) (fun _ => (w_J1_charAt_3b067 g)) (fun _ => pl) 0 0 := by
  refine met_c (own := RJ1) rfl rfl (Nat.le_of_ble_eq_true rfl) (fun X hg hl C hini hret => ?_)
  subst hg
  subst hl
  exact m_J1_charAt_3b067 C hki (fun r pc lo z hp hd => hret r () pc lo z hp hd) hw
abbrev w_J0_charAt_5068e (g : GG) : va_W := []
set_option maxRecDepth 20000 in
theorem m_J0_charAt_5068e {X : Ctx} {ka : KA} (C : Cok X cJ0_charAt_5068e 2 RJ0 (rmL 3) (FzC ka)) {ki : Nat} (hki : ki < 2) {pl : Pool} {p1 : Int32} {post : Int32 → Prop} (hret : ∀ (r : Int32) (pc : Nat) (lo : List (Option Value)), narrow .char (.int r) = .int r → post r → decode cJ0_charAt_5068e pc = .ok (.ireturn, 1) → AW X 2 0 0 (w_J0_charAt_5068e (cxG X)) pl pc lo [.int r]) (hw : wp_J0_charAt_5068e ki p1 post) : AW X 2 0 0 (w_J0_charAt_5068e (cxG X)) pl 0 [some (.ref (ka.1 ki)), some (.int p1)] [] := by
  replace hw : wp_J0_isLatin1_aae02 ki (fun r1 => (r1 = 0 → (False)) ∧ (¬ r1 = 0 → (wp_J1_charAt_3b067 ki p1 (fun r12 => narrow .char (.int r12) = .int r12 ∧ (post r12))))) := hw
  refine a_aload_n (pc := 0) (i := 0) C dJ0_charAt_5068e_0 rfl rfl ?_
  refine a_callKi (pc := 1) (ki := ki) (As := []) (st := []) (ws' := (fun _ => (w_J0_charAt_5068e (cxG X)))) C hki rfl (c_J0_isLatin1_aae02 (ki := ki) hki hw) dJ0_charAt_5068e_1 mth_J0_isLatin1_aae02 tml_J0_492 (fun _ _ h => h) (FzC_ok ka) (rml (by decide) (by decide)) (Nat.le_of_ble_eq_true rfl) rfl rfl [] [] [] rfl rfl rfl rfl rfl rfl (fun _ => rfl) rfl (fun _ => rfl) (fun r1 u hw => ?_)
  obtain ⟨z_1, hw⟩ := hw
  show AW X 2 0 0 (w_J0_charAt_5068e (cxG X)) pl 4 [some (.ref (ka.1 ki)), some (.int p1)] [.int r1]
  refine a_if_eq (pc := 4) (tgt := 16) C dJ0_charAt_5068e_4 (by decide) (fun c_4 => ?_) (fun c_4 => ?_)
  · replace hw := hw.1 c_4
    refine a_aload_n (pc := 16) (i := 0) C dJ0_charAt_5068e_16 rfl rfl ?_
    refine a_kval (pc := 17) C tfl_J0_9 hki dJ0_charAt_5068e_17 ?_
    refine a_iload_n (pc := 20) (i := 1) C dJ0_charAt_5068e_20 rfl rfl ?_
    exact hw.elim
  · replace hw := hw.2 c_4
    refine a_aload_n (pc := 7) (i := 0) C dJ0_charAt_5068e_7 rfl rfl ?_
    refine a_kval (pc := 8) C tfl_J0_9 hki dJ0_charAt_5068e_8 ?_
    refine a_iload_n (pc := 11) (i := 1) C dJ0_charAt_5068e_11 rfl rfl ?_
    refine a_callSi (pc := 12) (As := [.ref (ka.2 ki), .int p1]) (st := []) (ws' := (fun _ => (w_J0_charAt_5068e (cxG X)))) C (c_J1_charAt_3b067 (ki := ki) hki hw) dJ0_charAt_5068e_12 mth_J1_charAt_3b067 tml_J0_495 (fun _ _ h => h) (FzC_ok ka) (rml (by decide) (by decide)) (Nat.le_of_ble_eq_true rfl) rfl rfl [] [] [] rfl rfl rfl rfl rfl rfl (fun _ => rfl) rfl (fun _ => rfl) (fun r12 u hw => ?_)
    obtain ⟨z_12, hw⟩ := hw
    show AW X 2 0 0 (w_J0_charAt_5068e (cxG X)) pl 15 [some (.ref (ka.1 ki)), some (.int p1)] [.int r12]
    obtain ⟨z_15, hw⟩ := hw
    exact hret _ _ _ z_15 hw dJ0_charAt_5068e_15
theorem c_J0_charAt_5068e {ka : KA} {ki : Nat} (hki : ki < 2) {l : Launch} {g : GG} {pl : Pool} {p1 : Int32} {post : Int32 → Prop} (hw : wp_J0_charAt_5068e ki p1 post) : MI l yJ0_charAt_5068e cJ0_charAt_5068e 2 (some .char) (rmL 3) g (FzC ka) [.ref (ka.1 ki), .int p1] (w_J0_charAt_5068e g) pl (fun r (_ : Unit) => narrow .char (.int r) = .int r ∧ post r) (fun _ => (w_J0_charAt_5068e g)) (fun _ => pl) 0 0 := by
  refine met_c (own := RJ0) rfl rfl (Nat.le_of_ble_eq_true rfl) (fun X hg hl C hini hret => ?_)
  subst hg
  subst hl
  exact m_J0_charAt_5068e C hki (fun r pc lo z hp hd => hret r () pc lo z hp hd) hw
abbrev w_J1_canEncode_9a6ad (g : GG) : va_W := []
set_option maxRecDepth 20000 in
theorem m_J1_canEncode_9a6ad {X : Ctx} {ka : KA} (C : Cok X cJ1_canEncode_9a6ad 1 RJ1 (rmL 0) (FzC ka)) {pl : Pool} {p0 : Int32} {post : Int32 → Prop} (hret : ∀ (r : Int32) (pc : Nat) (lo : List (Option Value)), b01 r → post r → decode cJ1_canEncode_9a6ad pc = .ok (.ireturn, 1) → AW X 1 0 0 (w_J1_canEncode_9a6ad (cxG X)) pl pc lo [.int r]) (hw : wp_J1_canEncode_9a6ad p0 post) : AW X 1 0 0 (w_J1_canEncode_9a6ad (cxG X)) pl 0 [some (.int p0)] [] := by
  refine a_iload_n (pc := 0) (i := 0) C dJ1_canEncode_9a6ad_0 rfl rfl ?_
  refine a_if_lt (pc := 1) (tgt := 15) C dJ1_canEncode_9a6ad_1 (by decide) (fun c_1 => ?_) (fun c_1 => ?_)
  · replace hw := hw.1 c_1
    refine a_iconst (pc := 15) C dJ1_canEncode_9a6ad_15 kc_0 ?_
    exact hret _ _ _ (Or.inl rfl) hw dJ1_canEncode_9a6ad_16
  · replace hw := hw.2 c_1
    refine a_iload_n (pc := 4) (i := 0) C dJ1_canEncode_9a6ad_4 rfl rfl ?_
    refine a_sipush (pc := 5) C dJ1_canEncode_9a6ad_5 ks_255 ?_
    refine a_icmp_gt (pc := 8) (tgt := 15) C dJ1_canEncode_9a6ad_8 (by decide) (fun c_8 => ?_) (fun c_8 => ?_)
    · replace hw := hw.1 c_8
      refine a_iconst (pc := 15) C dJ1_canEncode_9a6ad_15 kc_0 ?_
      exact hret _ _ _ (Or.inl rfl) hw dJ1_canEncode_9a6ad_16
    · replace hw := hw.2 c_8
      refine a_iconst (pc := 11) C dJ1_canEncode_9a6ad_11 kc_1 ?_
      refine a_goto (pc := 12) (tgt := 16) C dJ1_canEncode_9a6ad_12 (by decide) ?_
      exact hret _ _ _ (Or.inr rfl) hw dJ1_canEncode_9a6ad_16
theorem c_J1_canEncode_9a6ad {ka : KA} {l : Launch} {g : GG} {pl : Pool} {p0 : Int32} {post : Int32 → Prop} (hw : wp_J1_canEncode_9a6ad p0 post) : MI l yJ1_canEncode_9a6ad cJ1_canEncode_9a6ad 1 (some .boolean) (rmL 0) g (FzC ka) [.int p0] (w_J1_canEncode_9a6ad g) pl (fun r (_ : Unit) => b01 r ∧ post r) (fun _ => (w_J1_canEncode_9a6ad g)) (fun _ => pl) 0 0 := by
  refine mi_b01 ?_
  refine met_z (own := RJ1) rfl rfl (Nat.le_of_ble_eq_true rfl) (fun X hg hl C hini hret => ?_)
  subst hg
  subst hl
  exact m_J1_canEncode_9a6ad C (fun r pc lo z hp hd => hret r () pc lo (b01_nar z) hp hd) hw
abbrev w_J1_indexOfChar_4cfef (g : GG) : va_W := []
set_option maxRecDepth 20000 in
theorem m_J1_indexOfChar_4cfef_L7 {X : Ctx} {ka : KA} (C : Cok X cJ1_indexOfChar_4cfef 6 RJ1 (rmL 0) (FzC ka)) {ki : Nat} (hki : ki < 2) {pl : Pool} {post : Int32 → Prop} (hret : ∀ (r : Int32) (pc : Nat) (lo : List (Option Value)), post r → decode cJ1_indexOfChar_4cfef pc = .ok (.ireturn, 1) → AW X 6 0 0 (w_J1_indexOfChar_4cfef (cxG X)) pl pc lo [.int r]) {x_22 : Int32 → Prop} {x_31 : Prop} (hx_31 : x_31  → AW X 6 0 0 (w_J1_indexOfChar_4cfef (cxG X)) pl 31 [none, none, none, none, none, none] []) (hx_22 : ∀ (l5 : Int32) , x_22 l5 → AW X 6 0 0 (w_J1_indexOfChar_4cfef (cxG X)) pl 22 [none, none, none, none, none, some (.int l5)] []) : ∀ (n7 : Nat) (l3 : Int32) (l4 : Int32) (l5 : Int32) , lp (wp_J1_indexOfChar_4cfef_L7 ki x_31 x_22 post) n7 (l3, l4, l5) → AW X 6 0 0 (w_J1_indexOfChar_4cfef (cxG X)) pl 7 [some (.ref (ka.2 ki)), none, none, some (.int l3), some (.int l4), some (.int l5)] [] := by
  intro n7
  induction n7 with
  | zero => exact fun _ _ _ hw => hw.elim
  | succ n7 hkb =>
    intro l3 l4 l5 hw
    replace hw : wp_J1_indexOfChar_4cfef_L7 ki x_31 x_22 post (lp (wp_J1_indexOfChar_4cfef_L7 ki x_31 x_22 post) n7) (l3, l4, l5) := hw
    generalize lp (wp_J1_indexOfChar_4cfef_L7 ki x_31 x_22 post) n7 = kb at hw hkb
    refine a_iload (pc := 7) (i := 5) C dJ1_indexOfChar_4cfef_7 rfl ?_
    refine a_iload_n (pc := 9) (i := 3) C dJ1_indexOfChar_4cfef_9 rfl rfl ?_
    refine a_icmp_ge (pc := 10) (tgt := 31) C dJ1_indexOfChar_4cfef_10 (by decide) (fun c_10 => ?_) (fun c_10 => ?_)
    · replace hw := hw.1 c_10
      refine a_msk [false, true, true, false, false, false] rfl ?_
      exact hx_31  hw
    · replace hw := hw.2 c_10
      refine a_aload_n (pc := 13) (i := 0) C dJ1_indexOfChar_4cfef_13 rfl rfl ?_
      refine a_iload (pc := 14) (i := 5) C dJ1_indexOfChar_4cfef_14 rfl ?_
      obtain ⟨i_16, hw⟩ := hw
      refine a_kbal (pc := 16) C hki dJ1_indexOfChar_4cfef_16 i_16 ?_
      refine a_iload (pc := 17) (i := 4) C dJ1_indexOfChar_4cfef_17 rfl ?_
      refine a_icmp_ne (pc := 19) (tgt := 25) C dJ1_indexOfChar_4cfef_19 (by decide) (fun c_19 => ?_) (fun c_19 => ?_)
      · replace hw := hw.1 c_19
        refine a_inc (pc := 25) (i := 5) C (fun y => [some (.ref (ka.2 ki)), none, none, some (.int l3), some (.int l4), some (.int y)]) dJ1_indexOfChar_4cfef_25 rfl kc_1 (by decide) rfl (fun _ => rfl) (fun y25 e_y25 => ?_)
        replace hw := hw y25 e_y25
        refine a_goto (pc := 28) (tgt := 7) C dJ1_indexOfChar_4cfef_28 (by decide) ?_
        exact hkb _ _ _ hw
      · replace hw := hw.2 c_19
        refine a_msk [false, true, true, false, false, true] rfl ?_
        exact hx_22 _ hw
set_option maxRecDepth 20000 in
theorem m_J1_indexOfChar_4cfef {X : Ctx} {ka : KA} (C : Cok X cJ1_indexOfChar_4cfef 6 RJ1 (rmL 0) (FzC ka)) {ki : Nat} (hki : ki < 2) {pl : Pool} {p1 : Int32} {p2 : Int32} {p3 : Int32} {post : Int32 → Prop} (hret : ∀ (r : Int32) (pc : Nat) (lo : List (Option Value)), post r → decode cJ1_indexOfChar_4cfef pc = .ok (.ireturn, 1) → AW X 6 0 0 (w_J1_indexOfChar_4cfef (cxG X)) pl pc lo [.int r]) (hw : wp_J1_indexOfChar_4cfef ki p1 p2 p3 post) : AW X 6 0 0 (w_J1_indexOfChar_4cfef (cxG X)) pl 0 [some (.ref (ka.2 ki)), some (.int p1), some (.int p2), some (.int p3), none, none] [] := by
  refine a_iload_n (pc := 0) (i := 1) C dJ1_indexOfChar_4cfef_0 rfl rfl ?_
  refine a_i2b (pc := 1) C dJ1_indexOfChar_4cfef_1 ?_
  refine a_topi (fun x2 e_x2 => ?_)
  replace hw := hw x2 e_x2
  refine s_istore (pc := 2) (i := 4) (lo' := [some (.ref (ka.2 ki)), some (.int p1), some (.int p2), some (.int p3), some (.int x2), none]) C dJ1_indexOfChar_4cfef_2 (by decide) rfl rfl ?_
  refine a_iload_n (pc := 4) (i := 2) C dJ1_indexOfChar_4cfef_4 rfl rfl ?_
  refine s_istore (pc := 5) (i := 5) (lo' := [some (.ref (ka.2 ki)), some (.int p1), some (.int p2), some (.int p3), some (.int x2), some (.int p2)]) C dJ1_indexOfChar_4cfef_5 (by decide) rfl rfl ?_
  refine a_msk [true, false, false, true, true, true] rfl ?_
  obtain ⟨n7, hw⟩ := hw
  refine m_J1_indexOfChar_4cfef_L7 C hki hret (fun hw => ?_) (fun l5 hw => ?_) n7 _ _ _ hw
  · refine a_iconst (pc := 31) C dJ1_indexOfChar_4cfef_31 kc_m1 ?_
    exact hret _ _ _ hw dJ1_indexOfChar_4cfef_32
  · refine a_iload (pc := 22) (i := 5) C dJ1_indexOfChar_4cfef_22 rfl ?_
    exact hret _ _ _ hw dJ1_indexOfChar_4cfef_24
theorem c_J1_indexOfChar_4cfef {ka : KA} {ki : Nat} (hki : ki < 2) {l : Launch} {g : GG} {pl : Pool} {p1 : Int32} {p2 : Int32} {p3 : Int32} {post : Int32 → Prop} (hw : wp_J1_indexOfChar_4cfef ki p1 p2 p3 post) : MI l yJ1_indexOfChar_4cfef cJ1_indexOfChar_4cfef 6 (some .int) (rmL 0) g (FzC ka) [.ref (ka.2 ki), .int p1, .int p2, .int p3] (w_J1_indexOfChar_4cfef g) pl (fun r (_ : Unit) => post r) (fun _ => (w_J1_indexOfChar_4cfef g)) (fun _ => pl) 0 0 := by
  refine met_i (own := RJ1) rfl rfl (Nat.le_of_ble_eq_true rfl) (fun X hg hl C hini hret => ?_)
  subst hg
  subst hl
  exact m_J1_indexOfChar_4cfef C hki (fun r pc lo hp hd => hret r () pc lo hp hd) hw
abbrev w_J1_indexOf_4cfef (g : GG) : va_W := []
set_option maxRecDepth 20000 in
theorem m_J1_indexOf_4cfef {X : Ctx} {ka : KA} (C : Cok X cJ1_indexOf_4cfef 4 RJ1 (rmL 1) (FzC ka)) {ki : Nat} (hki : ki < 2) {pl : Pool} {p1 : Int32} {p2 : Int32} {p3 : Int32} {post : Int32 → Prop} (hret : ∀ (r : Int32) (pc : Nat) (lo : List (Option Value)), post r → decode cJ1_indexOf_4cfef pc = .ok (.ireturn, 1) → AW X 4 0 0 (w_J1_indexOf_4cfef (cxG X)) pl pc lo [.int r]) (hw : wp_J1_indexOf_4cfef ki p1 p2 p3 post) : AW X 4 0 0 (w_J1_indexOf_4cfef (cxG X)) pl 0 [some (.ref (ka.2 ki)), some (.int p1), some (.int p2), some (.int p3)] [] := by
  replace hw : wp_J1_canEncode_9a6ad p1 (fun r1 => (¬ r1 = 0 → (∀ x14 : Int32, x14 = (if p2 < 0 then 0 else p2) → (∀ x21 : Int32, x21 = (if (nI (kLen.getD ki 0)) < p3 then (nI (kLen.getD ki 0)) else p3) → ((x14 < x21 → (wp_J1_indexOfChar_4cfef ki p1 x14 x21 (fun r33 => post r33))) ∧ (¬ x14 < x21 → (post (-1))))))) ∧ (r1 = 0 → (post (-1)))) := hw
  refine a_iload_n (pc := 0) (i := 1) C dJ1_indexOf_4cfef_0 rfl rfl ?_
  refine a_callSi (pc := 1) (As := [.int p1]) (st := []) (ws' := (fun _ => (w_J1_indexOf_4cfef (cxG X)))) C (c_J1_canEncode_9a6ad hw) dJ1_indexOf_4cfef_1 mth_J1_canEncode_9a6ad tml_J1_88 (fun _ _ h => h) (FzC_ok ka) (rml (by decide) (by decide)) (Nat.le_of_ble_eq_true rfl) rfl rfl [] [] [] rfl rfl rfl rfl rfl rfl (fun _ => rfl) rfl (fun _ => rfl) (fun r1 u hw => ?_)
  obtain ⟨z_1, hw⟩ := hw
  show AW X 4 0 0 (w_J1_indexOf_4cfef (cxG X)) pl 4 [some (.ref (ka.2 ki)), some (.int p1), some (.int p2), some (.int p3)] [.int r1]
  refine a_if_ne (pc := 4) (tgt := 9) C dJ1_indexOf_4cfef_4 (by decide) (fun c_4 => ?_) (fun c_4 => ?_)
  · replace hw := hw.1 c_4
    refine a_iload_n (pc := 9) (i := 2) C dJ1_indexOf_4cfef_9 rfl rfl ?_
    refine a_iconst (pc := 10) C dJ1_indexOf_4cfef_10 kc_0 ?_
    refine a_mmax (pc := 11) C dJ1_indexOf_4cfef_11 tml_J1_92 tst_J9_max_7cf53 tin_J9 tcd_J9_max_7cf53 (by decide) (Nat.le_of_ble_eq_true rfl) (Nat.le_refl _) (Nat.le_refl _) ?_
    refine a_topi (fun x14 e_x14 => ?_)
    replace hw := hw x14 e_x14
    refine s_istore_n (pc := 14) (i := 2) (lo' := [some (.ref (ka.2 ki)), some (.int p1), some (.int x14), some (.int p3)]) C dJ1_indexOf_4cfef_14 rfl (by decide) rfl rfl ?_
    refine a_iload_n (pc := 15) (i := 3) C dJ1_indexOf_4cfef_15 rfl rfl ?_
    refine a_aload_n (pc := 16) (i := 0) C dJ1_indexOf_4cfef_16 rfl rfl ?_
    refine a_klen (pc := 17) C hki dJ1_indexOf_4cfef_17 ?_
    refine a_mmin (pc := 18) C dJ1_indexOf_4cfef_18 tml_J1_38 tst_J9_min_7cf53 tin_J9 tcd_J9_min_7cf53 (by decide) (Nat.le_of_ble_eq_true rfl) (Nat.le_refl _) (Nat.le_refl _) ?_
    refine a_topi (fun x21 e_x21 => ?_)
    replace hw := hw x21 e_x21
    refine s_istore_n (pc := 21) (i := 3) (lo' := [some (.ref (ka.2 ki)), some (.int p1), some (.int x14), some (.int x21)]) C dJ1_indexOf_4cfef_21 rfl (by decide) rfl rfl ?_
    refine a_iload_n (pc := 22) (i := 2) C dJ1_indexOf_4cfef_22 rfl rfl ?_
    refine a_iload_n (pc := 23) (i := 3) C dJ1_indexOf_4cfef_23 rfl rfl ?_
    refine a_icmp_lt (pc := 24) (tgt := 29) C dJ1_indexOf_4cfef_24 (by decide) (fun c_24 => ?_) (fun c_24 => ?_)
    · replace hw := hw.1 c_24
      refine a_aload_n (pc := 29) (i := 0) C dJ1_indexOf_4cfef_29 rfl rfl ?_
      refine a_iload_n (pc := 30) (i := 1) C dJ1_indexOf_4cfef_30 rfl rfl ?_
      refine a_iload_n (pc := 31) (i := 2) C dJ1_indexOf_4cfef_31 rfl rfl ?_
      refine a_iload_n (pc := 32) (i := 3) C dJ1_indexOf_4cfef_32 rfl rfl ?_
      refine a_callSi (pc := 33) (As := [.ref (ka.2 ki), .int p1, .int x14, .int x21]) (st := []) (ws' := (fun _ => (w_J1_indexOf_4cfef (cxG X)))) C (c_J1_indexOfChar_4cfef (ki := ki) hki hw) dJ1_indexOf_4cfef_33 mth_J1_indexOfChar_4cfef tml_J1_95 (fun _ _ h => h) (FzC_ok ka) (rml (by decide) (by decide)) (Nat.le_of_ble_eq_true rfl) rfl rfl [] [] [] rfl rfl rfl rfl rfl rfl (fun _ => rfl) rfl (fun _ => rfl) (fun r33 u hw => ?_)
      show AW X 4 0 0 (w_J1_indexOf_4cfef (cxG X)) pl 36 [some (.ref (ka.2 ki)), some (.int p1), some (.int x14), some (.int x21)] [.int r33]
      exact hret _ _ _ hw dJ1_indexOf_4cfef_36
    · replace hw := hw.2 c_24
      refine a_iconst (pc := 27) C dJ1_indexOf_4cfef_27 kc_m1 ?_
      exact hret _ _ _ hw dJ1_indexOf_4cfef_28
  · replace hw := hw.2 c_4
    refine a_iconst (pc := 7) C dJ1_indexOf_4cfef_7 kc_m1 ?_
    exact hret _ _ _ hw dJ1_indexOf_4cfef_8
theorem c_J1_indexOf_4cfef {ka : KA} {ki : Nat} (hki : ki < 2) {l : Launch} {g : GG} {pl : Pool} {p1 : Int32} {p2 : Int32} {p3 : Int32} {post : Int32 → Prop} (hw : wp_J1_indexOf_4cfef ki p1 p2 p3 post) : MI l yJ1_indexOf_4cfef cJ1_indexOf_4cfef 4 (some .int) (rmL 1) g (FzC ka) [.ref (ka.2 ki), .int p1, .int p2, .int p3] (w_J1_indexOf_4cfef g) pl (fun r (_ : Unit) => post r) (fun _ => (w_J1_indexOf_4cfef g)) (fun _ => pl) 0 0 := by
  refine met_i (own := RJ1) rfl rfl (Nat.le_of_ble_eq_true rfl) (fun X hg hl C hini hret => ?_)
  subst hg
  subst hl
  exact m_J1_indexOf_4cfef C hki (fun r pc lo hp hd => hret r () pc lo hp hd) hw
abbrev w_J0_indexOf_7cf53 (g : GG) : va_W := []
set_option maxRecDepth 20000 in
theorem m_J0_indexOf_7cf53 {X : Ctx} {ka : KA} (C : Cok X cJ0_indexOf_7cf53 3 RJ0 (rmL 2) (FzC ka)) {ki : Nat} (hki : ki < 2) {pl : Pool} {p1 : Int32} {p2 : Int32} {post : Int32 → Prop} (hret : ∀ (r : Int32) (pc : Nat) (lo : List (Option Value)), post r → decode cJ0_indexOf_7cf53 pc = .ok (.ireturn, 1) → AW X 3 0 0 (w_J0_indexOf_7cf53 (cxG X)) pl pc lo [.int r]) (hw : wp_J0_indexOf_7cf53 ki p1 p2 post) : AW X 3 0 0 (w_J0_indexOf_7cf53 (cxG X)) pl 0 [some (.ref (ka.1 ki)), some (.int p1), some (.int p2)] [] := by
  replace hw : wp_J0_isLatin1_aae02 ki (fun r1 => (r1 = 0 → (wp_J0_length_8abf5 ki (fun r30 => False))) ∧ (¬ r1 = 0 → (wp_J0_length_8abf5 ki (fun r14 => wp_J1_indexOf_4cfef ki p1 p2 r14 (fun r17 => post r17))))) := hw
  refine a_aload_n (pc := 0) (i := 0) C dJ0_indexOf_7cf53_0 rfl rfl ?_
  refine a_callKi (pc := 1) (ki := ki) (As := []) (st := []) (ws' := (fun _ => (w_J0_indexOf_7cf53 (cxG X)))) C hki rfl (c_J0_isLatin1_aae02 (ki := ki) hki hw) dJ0_indexOf_7cf53_1 mth_J0_isLatin1_aae02 tml_J0_492 (fun _ _ h => h) (FzC_ok ka) (rml (by decide) (by decide)) (Nat.le_of_ble_eq_true rfl) rfl rfl [] [] [] rfl rfl rfl rfl rfl rfl (fun _ => rfl) rfl (fun _ => rfl) (fun r1 u hw => ?_)
  obtain ⟨z_1, hw⟩ := hw
  show AW X 3 0 0 (w_J0_indexOf_7cf53 (cxG X)) pl 4 [some (.ref (ka.1 ki)), some (.int p1), some (.int p2)] [.int r1]
  refine a_if_eq (pc := 4) (tgt := 23) C dJ0_indexOf_7cf53_4 (by decide) (fun c_4 => ?_) (fun c_4 => ?_)
  · replace hw := hw.1 c_4
    refine a_aload_n (pc := 23) (i := 0) C dJ0_indexOf_7cf53_23 rfl rfl ?_
    refine a_kval (pc := 24) C tfl_J0_9 hki dJ0_indexOf_7cf53_24 ?_
    refine a_iload_n (pc := 27) (i := 1) C dJ0_indexOf_7cf53_27 rfl rfl ?_
    refine a_iload_n (pc := 28) (i := 2) C dJ0_indexOf_7cf53_28 rfl rfl ?_
    refine a_aload_n (pc := 29) (i := 0) C dJ0_indexOf_7cf53_29 rfl rfl ?_
    refine a_callKi (pc := 30) (ki := ki) (As := []) (st := [.int p2, .int p1, .ref (ka.2 ki)]) (ws' := (fun _ => (w_J0_indexOf_7cf53 (cxG X)))) C hki rfl (c_J0_length_8abf5 (ki := ki) hki hw) dJ0_indexOf_7cf53_30 mth_J0_length_8abf5 tml_J0_505 (fun _ _ h => h) (FzC_ok ka) (rml (by decide) (by decide)) (Nat.le_of_ble_eq_true rfl) rfl rfl [] [] [] rfl rfl rfl rfl rfl rfl (fun _ => rfl) rfl (fun _ => rfl) (fun r30 u hw => ?_)
    show AW X 3 0 0 (w_J0_indexOf_7cf53 (cxG X)) pl 33 [some (.ref (ka.1 ki)), some (.int p1), some (.int p2)] [.int r30, .int p2, .int p1, .ref (ka.2 ki)]
    exact hw.elim
  · replace hw := hw.2 c_4
    refine a_aload_n (pc := 7) (i := 0) C dJ0_indexOf_7cf53_7 rfl rfl ?_
    refine a_kval (pc := 8) C tfl_J0_9 hki dJ0_indexOf_7cf53_8 ?_
    refine a_iload_n (pc := 11) (i := 1) C dJ0_indexOf_7cf53_11 rfl rfl ?_
    refine a_iload_n (pc := 12) (i := 2) C dJ0_indexOf_7cf53_12 rfl rfl ?_
    refine a_aload_n (pc := 13) (i := 0) C dJ0_indexOf_7cf53_13 rfl rfl ?_
    refine a_callKi (pc := 14) (ki := ki) (As := []) (st := [.int p2, .int p1, .ref (ka.2 ki)]) (ws' := (fun _ => (w_J0_indexOf_7cf53 (cxG X)))) C hki rfl (c_J0_length_8abf5 (ki := ki) hki hw) dJ0_indexOf_7cf53_14 mth_J0_length_8abf5 tml_J0_505 (fun _ _ h => h) (FzC_ok ka) (rml (by decide) (by decide)) (Nat.le_of_ble_eq_true rfl) rfl rfl [] [] [] rfl rfl rfl rfl rfl rfl (fun _ => rfl) rfl (fun _ => rfl) (fun r14 u hw => ?_)
    show AW X 3 0 0 (w_J0_indexOf_7cf53 (cxG X)) pl 17 [some (.ref (ka.1 ki)), some (.int p1), some (.int p2)] [.int r14, .int p2, .int p1, .ref (ka.2 ki)]
    refine a_callSi (pc := 17) (As := [.ref (ka.2 ki), .int p1, .int p2, .int r14]) (st := []) (ws' := (fun _ => (w_J0_indexOf_7cf53 (cxG X)))) C (c_J1_indexOf_4cfef (ki := ki) hki hw) dJ0_indexOf_7cf53_17 mth_J1_indexOf_4cfef tml_J0_637 (fun _ _ h => h) (FzC_ok ka) (rml (by decide) (by decide)) (Nat.le_of_ble_eq_true rfl) rfl rfl [] [] [] rfl rfl rfl rfl rfl rfl (fun _ => rfl) rfl (fun _ => rfl) (fun r17 u hw => ?_)
    show AW X 3 0 0 (w_J0_indexOf_7cf53 (cxG X)) pl 20 [some (.ref (ka.1 ki)), some (.int p1), some (.int p2)] [.int r17]
    refine a_goto (pc := 20) (tgt := 36) C dJ0_indexOf_7cf53_20 (by decide) ?_
    exact hret _ _ _ hw dJ0_indexOf_7cf53_36
theorem c_J0_indexOf_7cf53 {ka : KA} {ki : Nat} (hki : ki < 2) {l : Launch} {g : GG} {pl : Pool} {p1 : Int32} {p2 : Int32} {post : Int32 → Prop} (hw : wp_J0_indexOf_7cf53 ki p1 p2 post) : MI l yJ0_indexOf_7cf53 cJ0_indexOf_7cf53 3 (some .int) (rmL 2) g (FzC ka) [.ref (ka.1 ki), .int p1, .int p2] (w_J0_indexOf_7cf53 g) pl (fun r (_ : Unit) => post r) (fun _ => (w_J0_indexOf_7cf53 g)) (fun _ => pl) 0 0 := by
  refine met_i (own := RJ0) rfl rfl (Nat.le_of_ble_eq_true rfl) (fun X hg hl C hini hret => ?_)
  subst hg
  subst hl
  exact m_J0_indexOf_7cf53 C hki (fun r pc lo hp hd => hret r () pc lo hp hd) hw
abbrev w_J0_indexOf_0f7a4 (g : GG) : va_W := []
set_option maxRecDepth 20000 in
theorem m_J0_indexOf_0f7a4 {X : Ctx} {ka : KA} (C : Cok X cJ0_indexOf_0f7a4 2 RJ0 (rmL 3) (FzC ka)) {ki : Nat} (hki : ki < 2) {pl : Pool} {p1 : Int32} {post : Int32 → Prop} (hret : ∀ (r : Int32) (pc : Nat) (lo : List (Option Value)), post r → decode cJ0_indexOf_0f7a4 pc = .ok (.ireturn, 1) → AW X 2 0 0 (w_J0_indexOf_0f7a4 (cxG X)) pl pc lo [.int r]) (hw : wp_J0_indexOf_0f7a4 ki p1 post) : AW X 2 0 0 (w_J0_indexOf_0f7a4 (cxG X)) pl 0 [some (.ref (ka.1 ki)), some (.int p1)] [] := by
  replace hw : wp_J0_indexOf_7cf53 ki p1 0 (fun r3 => post r3) := hw
  refine a_aload_n (pc := 0) (i := 0) C dJ0_indexOf_0f7a4_0 rfl rfl ?_
  refine a_iload_n (pc := 1) (i := 1) C dJ0_indexOf_0f7a4_1 rfl rfl ?_
  refine a_iconst (pc := 2) C dJ0_indexOf_0f7a4_2 kc_0 ?_
  refine a_callKi (pc := 3) (ki := ki) (As := [.int p1, .int 0]) (st := []) (ws' := (fun _ => (w_J0_indexOf_0f7a4 (cxG X)))) C hki rfl (c_J0_indexOf_7cf53 (ki := ki) hki hw) dJ0_indexOf_0f7a4_3 mth_J0_indexOf_7cf53 tml_J0_633 (fun _ _ h => h) (FzC_ok ka) (rml (by decide) (by decide)) (Nat.le_of_ble_eq_true rfl) rfl rfl [] [] [] rfl rfl rfl rfl rfl rfl (fun _ => rfl) rfl (fun _ => rfl) (fun r3 u hw => ?_)
  show AW X 2 0 0 (w_J0_indexOf_0f7a4 (cxG X)) pl 6 [some (.ref (ka.1 ki)), some (.int p1)] [.int r3]
  exact hret _ _ _ hw dJ0_indexOf_0f7a4_6
theorem c_J0_indexOf_0f7a4 {ka : KA} {ki : Nat} (hki : ki < 2) {l : Launch} {g : GG} {pl : Pool} {p1 : Int32} {post : Int32 → Prop} (hw : wp_J0_indexOf_0f7a4 ki p1 post) : MI l yJ0_indexOf_0f7a4 cJ0_indexOf_0f7a4 2 (some .int) (rmL 3) g (FzC ka) [.ref (ka.1 ki), .int p1] (w_J0_indexOf_0f7a4 g) pl (fun r (_ : Unit) => post r) (fun _ => (w_J0_indexOf_0f7a4 g)) (fun _ => pl) 0 0 := by
  refine met_i (own := RJ0) rfl rfl (Nat.le_of_ble_eq_true rfl) (fun X hg hl C hini hret => ?_)
  subst hg
  subst hl
  exact m_J0_indexOf_0f7a4 C hki (fun r pc lo hp hd => hret r () pc lo hp hd) hw
