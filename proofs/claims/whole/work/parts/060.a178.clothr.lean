/-! a line of an awning or a shut, the reference -/
section CR
variable {tp : Int → Int} {tz : Int} {N : Nat} {so va pc f g h : Int → Int}
theorem p_allF {at_ fa ec dd : Int32} {op arg : Nat → Int32} {m : Nat} (hfa : ¬ fa = 0) (hfl : ¬ fa ≤ 0) {post : Int32 → Int32 → Int32 → (Nat → Int32) → (Nat → Int32) → Prop} (h : post at_ fa ec op arg) : wp_X12_all (wp_X12_takePart (m + 1)) (zA so) (zL va) wd_30 (zA pc) at_ fa ec op arg dd post := by
  have part : ∀ {po : Int32 → Int32 → Int32 → (Nat → Int32) → (Nat → Int32) → Prop}, po at_ fa ec op arg → wp_X12_takePart (m + 1) (zA so) (zL va) wd_30 (zA pc) at_ fa ec op arg dd po := fun hp => ⟨fun z => absurd z hfl, fun _ => hp⟩
  have prod : ∀ {po : Int32 → Int32 → Int32 → (Nat → Int32) → (Nat → Int32) → Prop}, po at_ fa ec op arg → wp_X12_products (wp_X12_takePart (m + 1)) (zA so) (zL va) wd_30 (zA pc) at_ fa ec op arg dd po := by
    intro po hp
    refine part ⟨1, ?_⟩
    show wp_X12_products_L5 _ _ _ _ _ _ _ _ _
    dsimp only [wp_X12_products_L5]
    exact p_hasSignF hfa ⟨fun _ => hp, fun z => absurd rfl z⟩
  have sums : ∀ {po : Int32 → Int32 → Int32 → (Nat → Int32) → (Nat → Int32) → Prop}, po at_ fa ec op arg → wp_X12_sums (wp_X12_takePart (m + 1)) (zA so) (zL va) wd_30 (zA pc) at_ fa ec op arg dd po := by
    intro po hp
    refine prod ⟨1, ?_⟩
    show wp_X12_sums_L5 _ _ _ _ _ _ _ _ _
    dsimp only [wp_X12_sums_L5]
    exact p_isSignF hfa ⟨fun z => absurd rfl z, fun _ => p_isSignF hfa ⟨fun _ => hp, fun z => absurd rfl z⟩⟩
  have test : ∀ {po : Int32 → Int32 → Int32 → (Nat → Int32) → (Nat → Int32) → Prop}, po at_ fa ec op arg → wp_X12_test (wp_X12_takePart (m + 1)) (zA so) (zL va) wd_30 (zA pc) at_ fa ec op arg dd po := by
    intro po hp
    refine sums ?_
    exact p_isSignF hfa (p_hasSignF hfa ⟨fun z => absurd rfl z, fun _ => p_hasSignF hfa ⟨fun _ => hp, fun z => absurd rfl z⟩⟩)
  refine test ⟨1, ?_⟩
  show wp_X12_all_L5 _ _ _ _ _ _ _ _ _
  dsimp only [wp_X12_all_L5]
  exact p_isWordF hfa ⟨fun z => absurd rfl z, fun _ => p_isWordF hfa ⟨fun _ => h, fun z => absurd rfl z⟩⟩
def clT (T : Int → Int) (n sq what : Int) (e : Nat) : Int → Int := upI (upI (upI (upI T (641 + 3 * n) sq) (642 + 3 * n) what) (643 + 3 * n) e) 640 (n + 1)
theorem p_clothR (hz : 0 ≤ tz ∧ tz ≤ 1000) (hf : flR tp tz (N + 1) so va pc) (hN : pos tp tz N = tz) (hN1 : N ≤ 1000) {i : Nat} (hi : i < N) {T S : Int → Int} (hT : i32 T) (hS : ∀ j, 0 ≤ j → j < 440 → S j = T (440 + j)) (h20 : 0 ≤ S 200 ∧ S 200 ≤ 20) {what : Int} (hw : what = 3 ∨ what = 4)
    {k : Int} {j : Nat} {C : List Int} (hk : k = 0 ∨ k = 1 ∨ k = 5) (hj : i + 1 + 1 + 1 + 1 ≤ N → i + 1 + 1 + 1 + 1 ≤ j ∧ j ≤ N) (hl : k = 0 → C.length ≤ j - (i + 1 + 1 + 1 + 1))
    (hR : i + 1 + 1 + 1 + 1 ≤ N → RS tp tz (ofT (wp_X12_all (wp_X12_takePart 6)) so va pc 0) (i + 1 + 1 + 1 + 1) k j C)
    {e : Nat} (he : e ≤ i) {op arg : Nat → Int32} {post : Int32 → Int32 → Int32 → (Nat → Int32) → (Nat → Int32) → (Nat → Int32) → Prop}
    (g1 : (clK tp tz S i k j).1 ≠ 0 → ∀ a (e' : Nat) T' op' arg', e ≤ e' → e' ≤ N → scr T T' → emF op arg op' arg' e e' → post a (zi ((clK tp tz S i k j).1 + 16 * pos tp tz (clK tp tz S i k j).2)) (zi e') (zA T') op' arg')
    (g0 : (clK tp tz S i k j).1 = 0 → k = 0 → ∀ op' arg', emR op arg op' arg' e C → post (zi ((clK tp tz S i k j).2 : Int)) 0 (zi ((e + C.length + 1 : Nat) : Int)) (zA (clT T (S 200) (sqA tp tz (i + 1)) what e)) (upd op' (1100 + (e + C.length)) 0) (upd arg' (1100 + (e + C.length)) 0)) : wp_X12_readCloth (zL va) (zA pc) (zA so) wd_30 (zi i) 0 (zi e) (zA T) op arg (zi what) (fun at_ fa codes towns op arg => wp_X12_takeSign (zA so) (zL va) (zA pc) at_ fa 59 (fun at_ fa => post at_ fa codes towns op arg)) := by
  have e200 := hS 200 (by omega) (by omega)
  have e640 : zA T (Int32.toNatClampNeg 640) = zi (S 200) := by
    rw [zi_lit, zA_get (by omega), e200]; rfl
  have i640 : vp_in 640 2640 := by rw [zi_lit, zi_in (by omega)]; omega
  rw [wp_X12_readCloth]
  refine ⟨i640, fun x8 e8 => ?_⟩
  rw [e640] at e8
  subst e8
  refine ⟨fun q => ?_, fun q => ?_⟩
  rotate_left
  · rw [zi_lit, zi_eq (by omega)] at q
    rw [clK, if_pos q] at g1
    exact p_wrongR (k := 5) hf hz hN1 (by omega) (p_takeSignF (flt_ne hz (by omega) i) (g1 (show (5 : Int) ≠ 0 by decide) _ e T op arg (by omega) (by omega) ⟨hT, fun _ _ => rfl⟩ (fun _ _ => ⟨rfl, rfl⟩)))
  rw [zi_lit, zi_eq (by omega)] at q
  rw [clK, if_neg q] at g1 g0
  have a1 : (641 : Int32) + 3 * zi (S 200) = zi (641 + 3 * S 200) := by rw [zi_lit, zi_lit, zi_mul, zi_add]
  have a2 : zi (641 + 3 * S 200) + 1 = zi (642 + 3 * S 200) := by rw [zi_lit, zi_add]; congr 1; omega
  have a3 : zi (641 + 3 * S 200) + 2 = zi (643 + 3 * S 200) := by rw [zi_lit, zi_add]; congr 1; omega
  have n1' : vp_in (zi (641 + 3 * S 200)) 2640 := by rw [zi_in (by omega)]; omega
  have n2' : vp_in (zi (642 + 3 * S 200)) 2640 := by rw [zi_in (by omega)]; omega
  have n3' : vp_in (zi (643 + 3 * S 200)) 2640 := by rw [zi_in (by omega)]; omega
  have u1 : ∀ v : Int, upd (zA T) (Int32.toNatClampNeg (zi (641 + 3 * S 200))) (zi v) = zA (upI T (641 + 3 * S 200) v) := fun v => zA_upd (by omega)
  have u2 : ∀ v : Int, upd (zA (upI T (641 + 3 * S 200) v)) (Int32.toNatClampNeg (zi (642 + 3 * S 200))) (zi what) = zA (upI (upI T (641 + 3 * S 200) v) (642 + 3 * S 200) what) := fun v => zA_upd (by omega)
  have u3 : ∀ v : Int, upd (zA (upI (upI T (641 + 3 * S 200) v) (642 + 3 * S 200) what)) (Int32.toNatClampNeg (zi (643 + 3 * S 200))) (zi e) = zA (upI (upI (upI T (641 + 3 * S 200) v) (642 + 3 * S 200) what) (643 + 3 * S 200) e) := fun v => zA_upd (by omega)
  have u4 : ∀ v : Int, zA (upI (upI (upI T (641 + 3 * S 200) v) (642 + 3 * S 200) what) (643 + 3 * S 200) e) (Int32.toNatClampNeg 640) = zi (S 200) := fun v => by
    rw [zi_lit, zA_get (by omega), upI_n (by omega), upI_n (by omega), upI_n (by omega), e200]; rfl
  have u5 : zi (S 200) + 1 = zi (S 200 + 1) := by rw [zi_lit, zi_add]
  have u6 : ∀ v : Int, upd (zA (upI (upI (upI T (641 + 3 * S 200) v) (642 + 3 * S 200) what) (643 + 3 * S 200) e)) (Int32.toNatClampNeg 640) (zi (S 200 + 1)) = zA (clT T (S 200) v what e) := fun v => by
    rw [show (640 : Int32) = zi 640 from rfl, zA_upd (by omega)]; rfl
  have sc : ∀ v : Int, (-2147483648 ≤ v ∧ v < 2147483648) → scr T (clT T (S 200) v what e) := fun v hv => scr_up (scr_up (scr_up (scr_up ⟨hT, fun _ _ => rfl⟩ (by omega) hv) (by omega) (by omega)) (by omega) (by omega)) (by omega) (by omega)
  /- behind the numbers and the word, a fault having been found -/
  have fl : ∀ (k' : Int) (j' : Nat) (a x76 : Int32) (v : Int), (-2147483648 ≤ v ∧ v < 2147483648) → x76 = zi v → k' = 1 ∨ k' = 3 ∨ k' = 4 ∨ k' = 5 → (∀ a (e' : Nat) T' op' arg', e ≤ e' → e' ≤ N → scr T T' → emF op arg op' arg' e e' → post a (zi (k' + 16 * pos tp tz j')) (zi e') (zA T') op' arg') → ∀ x61 : Int32, x61 = (641 + (3 * zi (S 200))) → (∀ x76' : Int32, x76' = x76 → (vp_in x61 2640 ∧ (∀ t_towns_76 : Nat → Int32, t_towns_76 = upd (zA T) (Int32.toNatClampNeg x61) x76' → (∀ x86 : Int32, x86 = (x61 + 1) → (vp_in x86 2640 ∧ (∀ t_towns_86 : Nat → Int32, t_towns_86 = upd t_towns_76 (Int32.toNatClampNeg x86) (zi what) → (∀ x99 : Int32, x99 = (x61 + 2) → (vp_in x99 2640 ∧ (∀ t_towns_99 : Nat → Int32, t_towns_99 = upd t_towns_86 (Int32.toNatClampNeg x99) (zi e) → (wp_X12_all (wp_X12_takePart 6) (zA so) (zL va) wd_30 (zA pc) a (zi (k' + 16 * pos tp tz j')) (zi e) op arg 0 (fun t_at_102 t_fault_102 t_codes_102 t_op_102 t_arg_102 => wp_X12_emit t_codes_102 t_op_102 t_arg_102 0 0 (fun t_codes_108 t_op_108 t_arg_108 => vp_in 640 2640 ∧ (∀ x122 : Int32, x122 = ((t_towns_99 (Int32.toNatClampNeg 640)) + 1) → (vp_in 640 2640 ∧ (∀ t_towns_122 : Nat → Int32, t_towns_122 = upd t_towns_99 (Int32.toNatClampNeg 640) x122 → (wp_X12_takeSign (zA so) (zL va) (zA pc) t_at_102 t_fault_102 59 (fun at_ fa => post at_ fa t_codes_108 t_towns_122 t_op_108 t_arg_108))))))))))))))))) := by
    intro k' j' a x76 v hv e76 hk' hp
    have fn := flt_ne (tp := tp) hz hk' j'
    have fg := flt_le (tp := tp) hz hk' j'
    subst e76
    simp only [forall_eq, a1, a2, a3, u1, u2, u3]
    refine ⟨n1', n2', n3', p_allF (m := 5) fn fg ?_⟩
    refine p_emitR (by omega) ?_
    simp only [forall_eq, u4, u5, u6]
    exact ⟨i640, i640, p_takeSignF fn (hp _ (e + 1) _ _ _ (by omega) (by omega) (sc v hv) emF_one)⟩
  rw [forall_eq, zi_p1]
  refine p_numR (lo := 0) (hi' := 9) hz hf hN1 (by omega) (by omega) (fun n1 => ?_) (fun n1 => ?_)
  rotate_left
  · have rg := nS_rng (tp := tp) (tz := tz) (lo := 0) (hi := 9) (i := i + 1)
    rw [if_pos n1] at g1
    have fn := flt_ne (tp := tp) hz (k := nS tp tz 0 9 (i + 1)) (by omega) (i + 1)
    refine p_numF fn (flt_le hz (by omega) _) (p_takeWordF fn ?_)
    exact fl _ (i + 1) _ _ 0 (by omega) rfl (by omega) (g1 n1)
  have i1 := nS_lt hN (by omega) n1
  have v1 := nS_0 n1
  refine p_numR (lo := 0) (hi' := 9) hz hf hN1 (by omega) (by omega) (fun n2 => ?_) (fun n2 => ?_)
  rotate_left
  · have rg := nS_rng (tp := tp) (tz := tz) (lo := 0) (hi := 9) (i := i + 1 + 1)
    rw [if_neg (fun z => z n1), if_pos n2] at g1
    have fn := flt_ne (tp := tp) hz (k := nS tp tz 0 9 (i + 1 + 1)) (by omega) (i + 1 + 1)
    refine p_takeWordF fn ?_
    refine fl _ (i + 1 + 1) _ _ (tV tp tz (i + 1)) (by omega) ?_ (by omega) (g1 n2)
    rw [zi_lit, zi_lit, zi_mul, zi_add]; congr 1; omega
  have i2 := nS_lt hN (by omega) n2
  have sr := sqA_rng n1 n2
  have e76 : (10 : Int32) * zi (tV tp tz (i + 1 + 1)) + zi (tV tp tz (i + 1)) = zi (sqA tp tz (i + 1)) := by rw [zi_lit, zi_mul, zi_add, sqA]
  rw [if_neg (fun z => z n1), if_neg (fun z => z n2)] at g1 g0
  refine p_takeWordR (w := 7) hf hz hN1 (by omega) (by omega) (fun e8 => ?_) (fun e8 => ?_)
  rotate_left
  · rw [if_pos (show tK tp tz (i + 1 + 1 + 1) ≠ 8 from e8)] at g1
    exact fl 1 (i + 1 + 1 + 1) _ _ _ (by omega) e76 (by omega) (g1 (show (1 : Int) ≠ 0 by decide))
  rw [if_neg (fun z => z (show tK tp tz (i + 1 + 1 + 1) = 8 from e8))] at g1 g0
  have i3 : i + 1 + 1 + 1 < N := tK_lt hN (by omega) (fun z => by rw [show tK tp tz (i + 1 + 1 + 1) = 8 from e8] at z; exact absurd z (by decide))
  have jr := hj (by omega)
  simp only [forall_eq, a1, a2, a3, e76, u1, u2, u3]
  refine ⟨n1', n2', n3', hR (by omega) e op arg _ (by omega) (fun k0 op' arg' hm => ?_) (fun k0 e' op' arg' b1 b2 hF => ?_)⟩
  · have hl' := hl k0
    refine p_emitR (by omega) ?_
    simp only [forall_eq, u4, u5, u6]
    refine ⟨i640, i640, ?_⟩
    refine p_takeSignR (c := 59) hf hz hN1 jr.2 (by omega) (by decide) (fun e39 => ?_) (fun e39 => ?_)
    · rw [if_neg (fun z => z k0), smK, if_pos (show tK tp tz j = 39 from e39)] at g0
      exact g0 rfl k0 op' arg' hm
    · rw [if_neg (fun z => z k0), smK, if_neg (show ¬ tK tp tz j = 39 from e39)] at g1
      exact g1 (show (1 : Int) ≠ 0 by decide) _ (e + C.length + 1) _ _ _ (by omega) (by omega) (sc _ (by omega)) (emF_trans (emR_F hm) emF_one (by omega) (by omega))
  · rw [if_pos k0] at g1
    refine p_emitR (by omega) ?_
    simp only [forall_eq, u4, u5, u6]
    exact ⟨i640, i640, p_takeSignF (flt_ne hz (by omega) j) (g1 k0 _ (e' + 1) _ _ _ (by omega) (by omega) (sc _ (by omega)) (emF_trans hF emF_one (by omega) (by omega)))⟩
end CR
