/-! THE LAW'S START: what the Statement gives of it -/
section ST
variable {s : State} {b : Nat} {A : Nat → Prop}
def nrL : List Jvm.Cond := flatC (Jvm.Cond.and given_1 narrow_1)
theorem st_arr {args : Array Value} {ty : FieldType} (h : (Cond.arrayClass ty).before args s = true) : ∃ cA : ClassId, ArrOfT s cA ty ∧ s.vm.findClass ("[" ++ ty.toString) = some cA := by
  obtain ⟨cA, kA, comp, h1, h2, h3⟩ := Cond.arrayClass_spec h
  exact ⟨cA, fun n z => ⟨fun k h => (by cases h), kA, h2, comp, h3⟩, h1⟩
theorem st_arq {args : Array Value} {C : String} (h : (Cond.arrayOver (.object C)).before args s = true) : ∃ cA : ClassId, ArrOfT s cA (.object C) ∧ va_RA s cA (.object C) := by
  obtain ⟨comp, c, k, f1, f0, f2, f3, f4⟩ := Cond.arrayOver_spec h
  exact ⟨c, fun n z => ⟨fun k h => (by cases h), k, f2, comp, f3⟩, k, comp, f2, f3, f1, f4⟩
theorem tn_bool : Cond.arrayClass .boolean ∈ tables_1 := by decide +kernel
theorem tn_sun : Cond.arrayOver (.object "ShadySide$Sun") ∈ tables_1 := by decide +kernel
theorem tn_wkr : Cond.arrayOver (.object "ShadySide$Walker") ∈ tables_1 := by decide +kernel
theorem tn_twn : Cond.arrayOver (.object "ShadySide$Town") ∈ tables_1 := by decide +kernel
theorem st_K (hts : ∀ w ∈ lw_tbl, w.before #[Value.ref b] s = true) : ∃ g : GG, va_K g.1 vwCl (tyL g.2) s := by
  have htb : ∀ w ∈ tb, w.before #[Value.ref b] s = true := fun w hw => hts w (tb_in hw)
  obtain ⟨c0, i0, k0⟩ := u_known (C := RX0) (T := TX0) (N := 2) (n := 2) htb uw_X0 (htb _ tit_X0)
  obtain ⟨c1, i1, k1⟩ := u_known (C := RX1) (T := TX1) (N := 10) (n := 10) htb uw_X1 (htb _ tit_X1)
  obtain ⟨c2, i2, k2⟩ := u_known (C := RX2) (T := TX2) (N := 5) (n := 5) htb uw_X2 (htb _ tit_X2)
  obtain ⟨c3, i3, k3⟩ := u_known (C := RX3) (T := TX3) (N := 6) (n := 6) htb uw_X3 (htb _ tit_X3)
  obtain ⟨c4, i4, k4⟩ := u_known (C := RX4) (T := TX4) (N := 14) (n := 14) htb uw_X4 (htb _ tit_X4)
  obtain ⟨c5, i5, k5⟩ := u_known (C := RX5) (T := TX5) (N := 1) (n := 1) htb uw_X5 (htb _ tit_X5)
  obtain ⟨c6, i6, k6⟩ := u_known (C := RX6) (T := TX6) (N := 9) (n := 9) htb uw_X6 (htb _ tit_X6)
  obtain ⟨c7, i7, k7⟩ := u_known (C := RX7) (T := TX7) (N := 5) (n := 5) htb uw_X7 (htb _ tit_X7)
  obtain ⟨c8, i8, k8⟩ := u_known (C := RX8) (T := TX8) (N := 14) (n := 14) htb uw_X8 (htb _ tit_X8)
  obtain ⟨c9, i9, k9⟩ := u_known (C := RX9) (T := TX9) (N := 21) (n := 21) htb uw_X9 (htb _ tit_X9)
  obtain ⟨c10, i10, k10⟩ := u_known (C := RX10) (T := TX10) (N := 6) (n := 6) htb uw_X10 (htb _ tit_X10)
  obtain ⟨c11, i11, k11⟩ := u_known (C := RX11) (T := TX11) (N := 8) (n := 8) htb uw_X11 (htb _ tit_X11)
  obtain ⟨c12, i12, k12⟩ := u_known (C := RX12) (T := TX12) (N := 43) (n := 43) htb uw_X12 (htb _ tit_X12)
  obtain ⟨a0, q0, r0⟩ := st_arr (htb _ tar_int)
  obtain ⟨a1, q1, r1⟩ := st_arr (htb _ tar_long)
  obtain ⟨a2, q2, r2⟩ := st_arr (hts _ (tn_m tn_bool))
  obtain ⟨a3, q3, r3⟩ := st_arq (hts _ (tn_m tn_sun))
  obtain ⟨a4, q4, r4⟩ := st_arq (hts _ (tn_m tn_wkr))
  obtain ⟨a5, q5, r5⟩ := st_arq (hts _ (tn_m tn_twn))
  refine ⟨((fun k => [c0, c1, c2, c3, c4, c5, c6, c7, c8, c9, c10, c11, c12].getD k c0, fun k => [i0, i1, i2, i3, i4, i5, i6, i7, i8, i9, i10, i11, i12].getD k i0), fun k => [a0, a1, a2, a3, a4, a5].getD k a0), fun k q hq => ?_, fun k q hq => ?_⟩
  · match k, hq with
    | 0, hq =>
      have hq' : some (RX0, TX0, 2) = some q := hq
      cases hq'
      exact k0
    | 1, hq =>
      have hq' : some (RX1, TX1, 10) = some q := hq
      cases hq'
      exact k1
    | 2, hq =>
      have hq' : some (RX2, TX2, 5) = some q := hq
      cases hq'
      exact k2
    | 3, hq =>
      have hq' : some (RX3, TX3, 6) = some q := hq
      cases hq'
      exact k3
    | 4, hq =>
      have hq' : some (RX4, TX4, 14) = some q := hq
      cases hq'
      exact k4
    | 5, hq =>
      have hq' : some (RX5, TX5, 1) = some q := hq
      cases hq'
      exact k5
    | 6, hq =>
      have hq' : some (RX6, TX6, 9) = some q := hq
      cases hq'
      exact k6
    | 7, hq =>
      have hq' : some (RX7, TX7, 5) = some q := hq
      cases hq'
      exact k7
    | 8, hq =>
      have hq' : some (RX8, TX8, 14) = some q := hq
      cases hq'
      exact k8
    | 9, hq =>
      have hq' : some (RX9, TX9, 21) = some q := hq
      cases hq'
      exact k9
    | 10, hq =>
      have hq' : some (RX10, TX10, 6) = some q := hq
      cases hq'
      exact k10
    | 11, hq =>
      have hq' : some (RX11, TX11, 8) = some q := hq
      cases hq'
      exact k11
    | 12, hq =>
      have hq' : some (RX12, TX12, 43) = some q := hq
      cases hq'
      exact k12
    | k + 13, hq =>
      have e : vwCl[k + 13]? = none := List.getElem?_eq_none (by show 13 ≤ k + 13; omega)
      rw [e] at hq
      cases hq
  · match k, hq with
    | 0, hq =>
      have hq' : some (a0, (FieldType.int : FieldType)) = some q := hq
      cases hq'
      exact ⟨q0, r0⟩
    | 1, hq =>
      have hq' : some (a1, (FieldType.long : FieldType)) = some q := hq
      cases hq'
      exact ⟨q1, r1⟩
    | 2, hq =>
      have hq' : some (a2, (FieldType.boolean : FieldType)) = some q := hq
      cases hq'
      exact ⟨q2, r2⟩
    | 3, hq =>
      have hq' : some (a3, (.object "ShadySide$Sun" : FieldType)) = some q := hq
      cases hq'
      exact ⟨q3, r3⟩
    | 4, hq =>
      have hq' : some (a4, (.object "ShadySide$Walker" : FieldType)) = some q := hq
      cases hq'
      exact ⟨q4, r4⟩
    | 5, hq =>
      have hq' : some (a5, (.object "ShadySide$Town" : FieldType)) = some q := hq
      cases hq'
      exact ⟨q5, r5⟩
    | k + 6, hq =>
      have e : (tyL (fun k => [a0, a1, a2, a3, a4, a5].getD k a0))[k + 6]? = none := List.getElem?_eq_none (by show 6 ≤ k + 6; omega)
      rw [show (tyL (fun k => [a0, a1, a2, a3, a4, a5].getD k a0))[k + 6]? = some q from hq] at e
      cases e
theorem tn_nest : ∀ q ∈ nestL, Cond.methodLinkNest q.1 q.2.1 q.2.2.1 q.2.2.2 ∈ tables_1 := by decide +kernel
theorem tn_decl : ∀ n ∈ dcX, Cond.declares ⟨n, "<init>", "()V"⟩ ∈ tables_1 := by decide +kernel
theorem tn_cast : Cond.castable nse nse ∈ tables_1 := by decide +kernel
theorem tn_ini0 : Cond.initialized "ShadySide" ∈ tables_1 := by decide +kernel
theorem tn_ini1 : Cond.initialized "java/lang/String" ∈ tables_1 := by decide +kernel
theorem tn_ini2 : Cond.initialized "jdk/internal/util/Preconditions" ∈ tables_1 := by decide +kernel
theorem tn_ini3 : Cond.initialized Bundle.tN ∈ tables_1 := by decide +kernel
theorem tn_lay0 : Cond.laysStatic "ShadySide" "EAST" "[I" ∈ tables_1 := by decide +kernel
theorem tn_lay1 : Cond.laysStatic "ShadySide" "SOUTH" "[I" ∈ tables_1 := by decide +kernel
theorem tn_lay2 : Cond.laysStatic "java/lang/String" "COMPACT_STRINGS" "Z" ∈ tables_1 := by decide +kernel
theorem tn_lay3 : Cond.laysStatic "jdk/internal/util/Preconditions" "SIOOBE_FORMATTER" "Ljava/util/function/BiFunction;" ∈ tables_1 := by decide +kernel
theorem tn_lay4 : Cond.laysStatic Bundle.tN "UNASSIGNED_STACK" Bundle.steD ∈ tables_1 := by decide +kernel
theorem tn_lay5 : Cond.laysStatic Bundle.tN "SUPPRESSED_SENTINEL" Bundle.listD ∈ tables_1 := by decide +kernel
theorem tn_str0 : Cond.stringRef "ShadySide$Reader" 243 "house tree arcade awning shut water sun walker when from over pace bears mends ice hot cool and or not minute day north northeast east southeast south southwest west northwest" ∈ tables_1 := by decide +kernel
theorem tn_str1 : Cond.stringRef "ShadySide$Reader" 227 "()<=+-*;" ∈ tables_1 := by decide +kernel
theorem nr_e0 : nrL[5]? = some (Cond.arrayOf (.static "ShadySide" "EAST" "[I") .int) := by decide +kernel
theorem nr_e1 : nrL[6]? = some (Cond.eq (.length (.static "ShadySide" "EAST" "[I")) (.int 8)) := by decide +kernel
theorem nr_e2 : ∀ j, j < 8 → nrL[7 + j]? = some (Cond.eq (.elem (.static "ShadySide" "EAST" "[I") (.int (Int32.ofNat j))) (.int (eastF j))) := by decide +kernel
theorem nr_s0 : nrL[16]? = some (Cond.arrayOf (.static "ShadySide" "SOUTH" "[I") .int) := by decide +kernel
theorem nr_s1 : nrL[17]? = some (Cond.eq (.length (.static "ShadySide" "SOUTH" "[I")) (.int 8)) := by decide +kernel
theorem nr_s2 : ∀ j, j < 8 → nrL[18 + j]? = some (Cond.eq (.elem (.static "ShadySide" "SOUTH" "[I") (.int (Int32.ofNat j))) (.int (southF j))) := by decide +kernel
theorem nr_c0 : nrL[26]? = some (Cond.eq (.static "java/lang/String" "COMPACT_STRINGS" "Z") (.int 1)) := by decide +kernel
theorem nr_c1 : nrL[27]? = some (Cond.isRef (.static "jdk/internal/util/Preconditions" "SIOOBE_FORMATTER" "Ljava/util/function/BiFunction;")) := by decide +kernel
theorem nr_t0 : nrL[31]? = some (Cond.isRef (.static Bundle.tN "UNASSIGNED_STACK" Bundle.steD)) := by decide +kernel
theorem nr_t1 : nrL[32]? = some (Cond.isRef (.static Bundle.tN "SUPPRESSED_SENTINEL" Bundle.listD)) := by decide +kernel
def tmS (i : Nat) : Term := Term.string "ShadySide$Reader" (if i = 0 then 243 else 227)
theorem nr_k0 : ∀ i, i < 2 → nrL[91 + 179 * i]? = some (Cond.exactly (tmS i) "java/lang/String") := by decide +kernel
theorem nr_k1 : ∀ i, i < 2 → nrL[92 + 179 * i]? = some (Cond.eq (.field (tmS i) "java/lang/String" "coder" "B") (.int 0)) := by decide +kernel
theorem nr_k2 : ∀ i, i < 2 → nrL[93 + 179 * i]? = some (Cond.arrayOf (.field (tmS i) "java/lang/String" "value" "[B") .byte) := by decide +kernel
theorem nr_k3 : ∀ i, i < 2 → nrL[94 + 179 * i]? = some (Cond.eq (.length (.field (tmS i) "java/lang/String" "value" "[B")) (.int (Int32.ofNat (kLen.getD i 0)))) := by decide +kernel
theorem nr_k4 : ∀ i, i < 2 → ∀ j, j < kLen.getD i 0 → nrL[95 + 179 * i + j]? = some (Cond.eq (.elem (.field (tmS i) "java/lang/String" "value" "[B") (.int (Int32.ofNat j))) (.int ((kByt.getD i []).getD j 0))) := by decide +kernel
theorem nr_k5 : nrL[282]? = some (Cond.not (Cond.eq (tmS 0) (tmS 1))) := by decide +kernel
theorem st_FzS (hs : ∀ c ∈ nrL, c.before #[Value.ref b] s = true) (hts : ∀ w ∈ lw_tbl, w.before #[Value.ref b] s = true) (hA : ∀ a : Nat, a < s.heap.size → ¬ A a) {n : String} {f : Nat → Int32} {k0 k1 k2 : Nat} (hl : Cond.laysStatic "ShadySide" n "[I" ∈ tables_1) (h0 : nrL[k0]? = some (Cond.arrayOf (.static "ShadySide" n "[I") .int)) (h1 : nrL[k1]? = some (Cond.eq (.length (.static "ShadySide" n "[I")) (.int 8))) (h2 : ∀ j, j < 8 → nrL[k2 + j]? = some (Cond.eq (.elem (.static "ShadySide" n "[I") (.int (Int32.ofNat j))) (.int (f j)))) : FzS n f A s := by
  obtain ⟨t, ht, hT⟩ := va_Tof (N := 8) (f := fun j => .int (f j)) (A := A) (by decide) (hs _ (List.mem_of_getElem? h0)) (va_eqt (hs _ (List.mem_of_getElem? h1))) (fun j hj => va_eqt (hs _ (List.mem_of_getElem? (h2 j hj)))) hA
  exact ⟨t, va_Zref (hts _ (tn_m hl)) (hts _ (tn_m tn_ini0)) ht hA, hT⟩
theorem st_FzK (hs : ∀ c ∈ nrL, c.before #[Value.ref b] s = true) (hts : ∀ w ∈ lw_tbl, w.before #[Value.ref b] s = true) (hA : ∀ a : Nat, a < s.heap.size → ¬ A a) : ∃ ka : KA, FzK ka A s := by
  obtain ⟨adK, adV, hS, hE⟩ := vk_Sof (N := 2) (tm := tmS) (len := kLen) (byt := kByt) (A := A) (args := #[Value.ref b]) (s := s) (by decide) (fun i hi => hs _ (List.mem_of_getElem? (nr_k0 i hi))) (fun i hi => hs _ (List.mem_of_getElem? (nr_k1 i hi))) (fun i hi => hs _ (List.mem_of_getElem? (nr_k2 i hi))) (fun i hi => hs _ (List.mem_of_getElem? (nr_k3 i hi))) (fun i hi j hj => hs _ (List.mem_of_getElem? (nr_k4 i hi j hj))) (fun i j hi hj hij => by
    have h5 := hs _ (List.mem_of_getElem? nr_k5)
    rcases (show (i = 0 ∧ j = 1) ∨ (i = 1 ∧ j = 0) by omega) with ⟨rfl, rfl⟩ | ⟨rfl, rfl⟩
    · exact Or.inl h5
    · exact Or.inr h5) hA
  exact ⟨(adK, adV), hS, vk_R.of (hts _ (tn_m tn_str0)) (hE 0 (by decide)), vk_R.of (hts _ (tn_m tn_str1)) (hE 1 (by decide))⟩
theorem st_F (hs : ∀ c ∈ nrL, c.before #[Value.ref b] s = true) (hts : ∀ w ∈ lw_tbl, w.before #[Value.ref b] s = true) (hA : ∀ a : Nat, a < s.heap.size → ¬ A a) : ∃ ka : KA, FzW ka A s := by
  obtain ⟨ka, hk⟩ := st_FzK hs hts hA
  refine ⟨ka, ⟨⟨fun q hq => va_Nw.of rfl (hts _ (tn_m (tn_nest q hq))), st_FzS hs hts hA tn_lay0 nr_e0 nr_e1 nr_e2, st_FzS hs hts hA tn_lay1 nr_s0 nr_s1 nr_s2, hk, va_Zof (hts _ (tn_m tn_lay2)) (hts _ (tn_m tn_ini1)) (va_eqi (hs _ (List.mem_of_getElem? nr_c0))) hA, va_Zqof (hts _ (tn_m tn_lay3)) (hts _ (tn_m tn_ini2)) (hs _ (List.mem_of_getElem? nr_c1)) hA⟩, ⟨va_Nw.of rfl (hts _ (tn_m tn_cast)), fun n hn => va_Nw.of rfl (hts _ (tn_m (tn_decl n hn)))⟩, vx_Zqof (hts _ (tn_m tn_lay4)) (hts _ (tn_m tn_ini3)) (hs _ (List.mem_of_getElem? nr_t0)) hA, vx_Zqof (hts _ (tn_m tn_lay5)) (hts _ (tn_m tn_ini3)) (hs _ (List.mem_of_getElem? nr_t1)) hA⟩, ?_, ?_, ?_⟩
  · exact va_AO.of (hts _ (tn_m tn_sun))
  · exact va_AO.of (hts _ (tn_m tn_wkr))
  · exact va_AO.of (hts _ (tn_m tn_twn))
end ST
