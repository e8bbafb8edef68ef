/-! THE LAW: the cases that may throw -/
theorem pw3 {α : Type} (a b c : List α) (d : α) (e : List α) : ((a ++ (b ++ (c ++ [d]))) ++ e).Perm ((a ++ [d]) ++ (b ++ (c ++ e))) := by
  have h : ((b ++ (c ++ [d])) ++ e).Perm ([d] ++ (b ++ (c ++ e))) := by
    rw [← List.append_assoc b c [d], List.append_assoc (b ++ c) [d] e]
    refine (sw3 (b ++ c) [d] e).trans ?_
    rw [List.append_assoc b c e]
  rw [List.append_assoc a (b ++ (c ++ [d])) e, List.append_assoc a [d]]
  exact h.append_left a
theorem pw4 {α : Type} (a b c : List α) (d : α) (e : List α) : ((a ++ (b ++ (c ++ [d]))) ++ e).Perm ([d] ++ (a ++ (b ++ (c ++ e)))) := by
  refine (pw3 a b c d e).trans ?_
  rw [List.append_assoc]
  exact sw3 _ _ _
theorem cmp_self (z : Int64) : lg_cmp z z = 0 := by simp [lg_cmp]
theorem updL_at (f : Nat → Int64) (v : Int64) : vp_updL f 0 v 0 = v := rfl
/-- the helper's answer and what the callee said -/
def hpR {V : Type} (f f1 : Nat → Int64) (up : V → Int64) (r : Int32) (ov : Option V) : Prop := (r = 0 ∧ ∃ v, ov = some v ∧ f1 = vp_updL f 0 (up v)) ∨ (r = 1 ∧ ov = none)
theorem hpO_ov {S V : Type} {f : Nat → Int64} {up : V → Int64} {post : Option V → S → Prop} {r : Int32} {u : S × (Nat → Int64)} (h : hpO f up post r u) : ∃ ov, post ov u.1 ∧ hpR f u.2 up r ov := by
  rcases h with ⟨h1, v, h2, h3⟩ | ⟨h1, h2, h3⟩
  · exact ⟨some v, h2, Or.inl ⟨h1, v, rfl, h3⟩⟩
  · exact ⟨none, h2, Or.inr ⟨h1, rfl⟩⟩
theorem rmLv {a ny k n : Nat} (h : a ≤ 100) (hn : ny ≤ 60) (hk : k + 1001 ≤ 601024) (hs : n + 6006 ≤ 7293033) : RmOk (rmL a) room_1 ny 0 0 (k + 1) (n + 6) := ⟨rfl, rfl, by show a + 1 ≤ 2048; omega, by show 8 + (ny + 11) + 60 * a ≤ 84000; omega, by show k + 1 + 0 ≤ 601024; omega, by show n + 6 + 0 ≤ 7293033; omega⟩
set_option maxRecDepth 20000 in
theorem lc_least {X : Ctx} {ka : KA} {b L : Nat} {xs : Nat → Int32} (C : Cok X cL_law 8 RL room_1 (FzL ka b L xs)) {k n : Nat} (hk : k + 1001 ≤ 601024) (hn : n + 6006 ≤ 7293033) {i : Int32} (hi : 0 ≤ i.toInt ∧ i.toInt + 10 ≤ L ∧ L ≤ 5120) {A B : Nat → Nat} {x : XS} {y : YS} {M : MK} {o : Nat} {f : Nat → Int64} {pl : Pool} (hl0 : (cxL X).stackTraces = false) {post : XS → YS → Prop} (hw : s1_least pl x y (xs (Int32.toNatClampNeg (i + 1))) (xs (Int32.toNatClampNeg (i + 2))) (xs (Int32.toNatClampNeg (i + 3))) (xs (Int32.toNatClampNeg (i + 4))) (xs (Int32.toNatClampNeg (i + 5))) (xs (Int32.toNatClampNeg (i + 6))) post) (kk : ∀ x y f, post x y → AW X 8 (k + 1001) (n + 6006) (WL (cxG X) A x B y M o f) pl 3322 [some (.ref b), some (.ref (A 0)), some (.ref (B 0)), some (.ref o), some (.int i), none, none, none] []) : AW X 8 k n (WL (cxG X) A x B y M o f) pl 621 [some (.ref b), some (.ref (A 0)), some (.ref (B 0)), some (.ref o), some (.int i), none, none, none] [] := by
  refine a_aload_n (pc := 621) (i := 1) C dL_law_621 rfl rfl ?_
  refine a_aload_n (pc := 622) (i := 0) C dL_law_622 rfl rfl ?_
  refine a_iload (pc := 623) (i := 4) C dL_law_623 rfl ?_
  refine a_iconst (pc := 625) (v := 1) C dL_law_625 rfl ?_
  refine a_iadd (pc := 626) C dL_law_626 ?_
  refine a_sld (pc := 627) C dL_law_627 (in_arg hi (by decide)) ?_
  refine a_aload_n (pc := 628) (i := 0) C dL_law_628 rfl rfl ?_
  refine a_iload (pc := 629) (i := 4) C dL_law_629 rfl ?_
  refine a_iconst (pc := 631) (v := 2) C dL_law_631 rfl ?_
  refine a_iadd (pc := 632) C dL_law_632 ?_
  refine a_sld (pc := 633) C dL_law_633 (in_arg hi (by decide)) ?_
  refine a_aload_n (pc := 634) (i := 0) C dL_law_634 rfl rfl ?_
  refine a_iload (pc := 635) (i := 4) C dL_law_635 rfl ?_
  refine a_iconst (pc := 637) (v := 3) C dL_law_637 rfl ?_
  refine a_iadd (pc := 638) C dL_law_638 ?_
  refine a_sld (pc := 639) C dL_law_639 (in_arg hi (by decide)) ?_
  refine a_aload_n (pc := 640) (i := 0) C dL_law_640 rfl rfl ?_
  refine a_iload (pc := 641) (i := 4) C dL_law_641 rfl ?_
  refine a_iconst (pc := 643) (v := 4) C dL_law_643 rfl ?_
  refine a_iadd (pc := 644) C dL_law_644 ?_
  refine a_sld (pc := 645) C dL_law_645 (in_arg hi (by decide)) ?_
  refine a_aload_n (pc := 646) (i := 0) C dL_law_646 rfl rfl ?_
  refine a_iload (pc := 647) (i := 4) C dL_law_647 rfl ?_
  refine a_iconst (pc := 649) (v := 5) C dL_law_649 rfl ?_
  refine a_iadd (pc := 650) C dL_law_650 ?_
  refine a_sld (pc := 651) C dL_law_651 (in_arg hi (by decide)) ?_
  refine a_aload_n (pc := 652) (i := 0) C dL_law_652 rfl rfl ?_
  refine a_iload (pc := 653) (i := 4) C dL_law_653 rfl ?_
  refine a_bipush (pc := 655) (v := 6) C dL_law_655 rfl ?_
  refine a_iadd (pc := 657) C dL_law_657 ?_
  refine a_sld (pc := 658) C dL_law_658 (in_arg hi (by decide)) ?_
  refine a_aload_n (pc := 659) (i := 3) C dL_law_659 rfl rfl ?_
  refine a_perm (pw3 _ _ _ _ _) ?_
  refine a_xSW (pc := 660) (As := [.ref (A 0), .int (xs (Int32.toNatClampNeg (i + 1))), .int (xs (Int32.toNatClampNeg (i + 2))), .int (xs (Int32.toNatClampNeg (i + 3))), .int (xs (Int32.toNatClampNeg (i + 4))), .int (xs (Int32.toNatClampNeg (i + 5))), .int (xs (Int32.toNatClampNeg (i + 6))), .ref o]) (st := []) C (c_L_least (k_X11_least (ka := ka) hl0 (post := fun ov x => s2_least ov x y (xs (Int32.toNatClampNeg (i + 1))) (xs (Int32.toNatClampNeg (i + 2))) (xs (Int32.toNatClampNeg (i + 3))) (xs (Int32.toNatClampNeg (i + 4))) (xs (Int32.toNatClampNeg (i + 5))) (xs (Int32.toNatClampNeg (i + 6))) post) A (fun pl' hp => hw pl' (fun z hz => hp z (List.mem_cons_of_mem _ (List.mem_append_right _ (List.mem_append_right _ hz)))))) rfl) dL_law_660 mth_L_least tml_L_92 (fun _ _ h => h.1.1) (FzD_ok ka) (rmXw (Nat.le_of_ble_eq_true rfl) hk hn) (Nat.le_of_ble_eq_true rfl) rfl rfl (fun r u hw => ?_)
  obtain ⟨ov, hw, hr⟩ := hpO_ov hw
  obtain ⟨u, f1⟩ := u
  dsimp only at hw hr
  refine a_perm (ws' := WL (cxG X) A (u1 (u1 (u1 (u1 (u1 (u1 (u1 (u1 (u1 (u1 (u1 (u1 (u1 x.1 30 u.2.1) 31 u.2.2.1) 32 u.2.2.2.1) 33 u.2.2.2.2.1) 34 u.2.2.2.2.2.1) 35 u.2.2.2.2.2.2.1) 36 u.2.2.2.2.2.2.2.1) 37 u.2.2.2.2.2.2.2.2.1) 38 u.2.2.2.2.2.2.2.2.2.1) 39 u.2.2.2.2.2.2.2.2.2.2.1) 40 u.2.2.2.2.2.2.2.2.2.2.2.1) 41 u.2.2.2.2.2.2.2.2.2.2.2.2.1) 42 u.2.2.2.2.2.2.2.2.2.2.2.2.2.2.2.2.2.1, u1 (u1 (u1 (u1 x.2.1 21 u.2.2.2.2.2.2.2.2.2.2.2.2.2.2.2.1) 22 u.2.2.2.2.2.2.2.2.2.2.2.2.2.2.2.2.1) 24 u.2.2.2.2.2.2.2.2.2.2.2.2.2.2.2.2.2.2.1) 23 u.2.2.2.2.2.2.2.2.2.2.2.2.2.2.2.2.2.2.2, u1 (u1 x.2.2.1 10 u.2.2.2.2.2.2.2.2.2.2.2.2.2.1) 11 u.2.2.2.2.2.2.2.2.2.2.2.2.2.2.1, x.2.2.2.1, u.1, x.2.2.2.2.2.1, x.2.2.2.2.2.2) B y M o f1) (pl' := pl) (pw3 _ _ _ _ _).symm ?_
  generalize ((u1 (u1 (u1 (u1 (u1 (u1 (u1 (u1 (u1 (u1 (u1 (u1 (u1 x.1 30 u.2.1) 31 u.2.2.1) 32 u.2.2.2.1) 33 u.2.2.2.2.1) 34 u.2.2.2.2.2.1) 35 u.2.2.2.2.2.2.1) 36 u.2.2.2.2.2.2.2.1) 37 u.2.2.2.2.2.2.2.2.1) 38 u.2.2.2.2.2.2.2.2.2.1) 39 u.2.2.2.2.2.2.2.2.2.2.1) 40 u.2.2.2.2.2.2.2.2.2.2.2.1) 41 u.2.2.2.2.2.2.2.2.2.2.2.2.1) 42 u.2.2.2.2.2.2.2.2.2.2.2.2.2.2.2.2.2.1, u1 (u1 (u1 (u1 x.2.1 21 u.2.2.2.2.2.2.2.2.2.2.2.2.2.2.2.1) 22 u.2.2.2.2.2.2.2.2.2.2.2.2.2.2.2.2.1) 24 u.2.2.2.2.2.2.2.2.2.2.2.2.2.2.2.2.2.2.1) 23 u.2.2.2.2.2.2.2.2.2.2.2.2.2.2.2.2.2.2.2, u1 (u1 x.2.2.1 10 u.2.2.2.2.2.2.2.2.2.2.2.2.2.1) 11 u.2.2.2.2.2.2.2.2.2.2.2.2.2.2.1, x.2.2.2.1, u.1, x.2.2.2.2.2.1, x.2.2.2.2.2.2) : XS) = x1 at hw ⊢
  refine a_istore (pc := 663) (i := 5) C dL_law_663 (Nat.le_of_ble_eq_true rfl) rfl ?_
  show AW X 8 (k + 1) (n + 6) (WL (cxG X) A x1 B y M o f1) pl 665 [some (.ref b), some (.ref (A 0)), some (.ref (B 0)), some (.ref o), some (.int i), some (.int r), none, none] []
  refine a_aload_n (pc := 665) (i := 2) C dL_law_665 rfl rfl ?_
  refine a_aload_n (pc := 666) (i := 0) C dL_law_666 rfl rfl ?_
  refine a_iload (pc := 667) (i := 4) C dL_law_667 rfl ?_
  refine a_iconst (pc := 669) (v := 1) C dL_law_669 rfl ?_
  refine a_iadd (pc := 670) C dL_law_670 ?_
  refine a_sld (pc := 671) C dL_law_671 (in_arg hi (by decide)) ?_
  refine a_aload_n (pc := 672) (i := 0) C dL_law_672 rfl rfl ?_
  refine a_iload (pc := 673) (i := 4) C dL_law_673 rfl ?_
  refine a_iconst (pc := 675) (v := 2) C dL_law_675 rfl ?_
  refine a_iadd (pc := 676) C dL_law_676 ?_
  refine a_sld (pc := 677) C dL_law_677 (in_arg hi (by decide)) ?_
  refine a_aload_n (pc := 678) (i := 0) C dL_law_678 rfl rfl ?_
  refine a_iload (pc := 679) (i := 4) C dL_law_679 rfl ?_
  refine a_iconst (pc := 681) (v := 3) C dL_law_681 rfl ?_
  refine a_iadd (pc := 682) C dL_law_682 ?_
  refine a_sld (pc := 683) C dL_law_683 (in_arg hi (by decide)) ?_
  refine a_aload_n (pc := 684) (i := 0) C dL_law_684 rfl rfl ?_
  refine a_iload (pc := 685) (i := 4) C dL_law_685 rfl ?_
  refine a_iconst (pc := 687) (v := 4) C dL_law_687 rfl ?_
  refine a_iadd (pc := 688) C dL_law_688 ?_
  refine a_sld (pc := 689) C dL_law_689 (in_arg hi (by decide)) ?_
  refine a_aload_n (pc := 690) (i := 0) C dL_law_690 rfl rfl ?_
  refine a_iload (pc := 691) (i := 4) C dL_law_691 rfl ?_
  refine a_iconst (pc := 693) (v := 5) C dL_law_693 rfl ?_
  refine a_iadd (pc := 694) C dL_law_694 ?_
  refine a_sld (pc := 695) C dL_law_695 (in_arg hi (by decide)) ?_
  refine a_aload_n (pc := 696) (i := 0) C dL_law_696 rfl rfl ?_
  refine a_iload (pc := 697) (i := 4) C dL_law_697 rfl ?_
  refine a_bipush (pc := 699) (v := 6) C dL_law_699 rfl ?_
  refine a_iadd (pc := 701) C dL_law_701 ?_
  refine a_sld (pc := 702) C dL_law_702 (in_arg hi (by decide)) ?_
  refine a_perm (pw2 _ _ _ _) ?_
  refine a_xVi (pc := 703) (As := [.int (xs (Int32.toNatClampNeg (i + 1))), .int (xs (Int32.toNatClampNeg (i + 2))), .int (xs (Int32.toNatClampNeg (i + 3))), .int (xs (Int32.toNatClampNeg (i + 4))), .int (xs (Int32.toNatClampNeg (i + 5))), .int (xs (Int32.toNatClampNeg (i + 6)))]) (st := []) C (k_X12_least (post := fun r2 y => s3I ov r2 x1 y post) B hw) dL_law_703 mth_X12_least tml_L_97 (fun _ _ _ => trivial) Fz0_ok (rmLv (Nat.le_of_ble_eq_true rfl) (Nat.le_of_ble_eq_true rfl) hk hn) (Nat.le_of_ble_eq_true rfl) rfl rfl (ci := 12) rfl ⟨0, _, rfl⟩ (m := 30) (fun _ => rfl) (fun r2 u hw => ?_)
  refine a_perm (ws' := WL (cxG X) A x1 B (u1 (u1 (u1 y.1 0 u.1) 6 u.2.1) 7 u.2.2.1, u1 (u1 (u1 (u1 (u1 (u1 (u1 (u1 (u1 (u1 y.2.1 10 u.2.2.2.1) 8 u.2.2.2.2.1) 9 u.2.2.2.2.2.1) 6 u.2.2.2.2.2.2.1) 7 u.2.2.2.2.2.2.2.1) 11 u.2.2.2.2.2.2.2.2.1) 12 u.2.2.2.2.2.2.2.2.2.1) 13 u.2.2.2.2.2.2.2.2.2.2.1) 15 u.2.2.2.2.2.2.2.2.2.2.2.1) 14 u.2.2.2.2.2.2.2.2.2.2.2.2, y.2.2) M o f1) (pl' := pl) (pw2 _ _ _ _).symm ?_
  generalize ((u1 (u1 (u1 y.1 0 u.1) 6 u.2.1) 7 u.2.2.1, u1 (u1 (u1 (u1 (u1 (u1 (u1 (u1 (u1 (u1 y.2.1 10 u.2.2.2.1) 8 u.2.2.2.2.1) 9 u.2.2.2.2.2.1) 6 u.2.2.2.2.2.2.1) 7 u.2.2.2.2.2.2.2.1) 11 u.2.2.2.2.2.2.2.2.1) 12 u.2.2.2.2.2.2.2.2.2.1) 13 u.2.2.2.2.2.2.2.2.2.2.1) 15 u.2.2.2.2.2.2.2.2.2.2.2.1) 14 u.2.2.2.2.2.2.2.2.2.2.2.2, y.2.2) : YS) = y1 at hw ⊢
  refine a_istore (pc := 706) (i := 6) C dL_law_706 (Nat.le_of_ble_eq_true rfl) rfl ?_
  show AW X 8 (k + 1) (n + 6) (WL (cxG X) A x1 B y1 M o f1) pl 708 [some (.ref b), some (.ref (A 0)), some (.ref (B 0)), some (.ref o), some (.int i), some (.int r), some (.int r2), none] []
  refine a_aload_n (pc := 708) (i := 2) C dL_law_708 rfl rfl ?_
  refine a_perm (pw2 _ _ _ _) ?_
  refine a_xVi (pc := 709) (As := []) (st := []) C (k_X12_thrown (post := fun t y => ((ov = none ∧ t = 1) ∨ (ov = some r2 ∧ t = 0)) ∧ post x1 y) B hw) dL_law_709 mth_X12_thrown tml_L_98 (fun _ _ _ => trivial) Fz0_ok (rmLv (Nat.le_of_ble_eq_true rfl) (Nat.le_of_ble_eq_true rfl) hk hn) (Nat.le_of_ble_eq_true rfl) rfl rfl (ci := 12) rfl ⟨0, _, rfl⟩ (m := 30) (fun _ => rfl) (fun t u hw => ?_)
  refine a_perm (ws' := WL (cxG X) A x1 B y1 M o f1) (pl' := pl) (pw2 _ _ _ _).symm ?_
  refine a_iload (pc := 712) (i := 5) C dL_law_712 rfl ?_
  obtain ⟨ht, hp⟩ := hw
  have key : t = r ∧ (r = 0 → f1 0 = Int32.toInt64 r2) := by
    rcases hr with ⟨h1, v, h2, h3⟩ | ⟨h1, h2⟩
    · rcases ht with ⟨h4, -⟩ | ⟨h4, h5⟩
      · rw [h2] at h4; cases h4
      · rw [h2] at h4; cases h4; exact ⟨h5.trans h1.symm, fun _ => by rw [h3]; rfl⟩
    · rcases ht with ⟨-, h5⟩ | ⟨h4, -⟩
      · exact ⟨h5.trans h1.symm, fun z => by rw [h1] at z; exact absurd z (by decide)⟩
      · rw [h2] at h4; cases h4
  refine a_icmp_eq (pc := 714) (tgt := 719) C dL_law_714 (by decide) (fun _ => ?_) (fun c => absurd key.1 c)
  have fin : AW X 8 (k + 1) (n + 6) (WL (cxG X) A x1 B y1 M o f1) pl 736 [some (.ref b), some (.ref (A 0)), some (.ref (B 0)), some (.ref o), some (.int i), some (.int r), some (.int r2), none] [] := by
    refine a_goto (pc := 736) (tgt := 3322) C dL_law_736 (by decide) ?_
    refine a_msk [true, true, true, true, true, false, false, false] rfl ?_
    exact a_widen (by omega) (by omega) (kk _ _ _ hp)
  refine a_iload (pc := 719) (i := 5) C dL_law_719 rfl ?_
  refine a_if_ne (pc := 721) (tgt := 736) C dL_law_721 (by decide) (fun _ => fin) (fun c => ?_)
  refine a_aload_n (pc := 724) (i := 3) C dL_law_724 rfl rfl ?_
  refine a_iconst (pc := 725) (v := 0) C dL_law_725 rfl ?_
  refine a_perm (pw4 _ _ _ _ _) ?_
  refine a_lald (pc := 726) C dL_law_726 0 rfl vp_in01 ?_
  refine a_perm (ws' := WL (cxG X) A x1 B y1 M o f1) (pl' := pl) (pw4 _ _ _ _ _).symm ?_
  refine a_iload (pc := 727) (i := 6) C dL_law_727 rfl ?_
  refine a_i2l (pc := 729) C dL_law_729 ?_
  refine a_lcmp (pc := 730) C dL_law_730 ?_
  refine a_if_eq (pc := 731) (tgt := 736) C dL_law_731 (by decide) (fun _ => fin) (fun z => absurd ?_ z)
  show lg_cmp (f1 0) (Int32.toInt64 r2) = 0
  rw [key.2 c]
  exact cmp_self _
set_option maxRecDepth 20000 in
theorem lc_guessed {X : Ctx} {ka : KA} {b L : Nat} {xs : Nat → Int32} (C : Cok X cL_law 8 RL room_1 (FzL ka b L xs)) {k n : Nat} (hk : k + 1001 ≤ 601024) (hn : n + 6006 ≤ 7293033) {i : Int32} (hi : 0 ≤ i.toInt ∧ i.toInt + 10 ≤ L ∧ L ≤ 5120) {A B : Nat → Nat} {x : XS} {y : YS} {M : MK} {o : Nat} {f : Nat → Int64} {pl : Pool} (hl0 : (cxL X).stackTraces = false) {post : XS → YS → Prop} (hw : s1_guessed pl x y (xs (Int32.toNatClampNeg (i + 1))) (xs (Int32.toNatClampNeg (i + 2))) (xs (Int32.toNatClampNeg (i + 3))) (xs (Int32.toNatClampNeg (i + 4))) (xs (Int32.toNatClampNeg (i + 5))) (xs (Int32.toNatClampNeg (i + 6))) (xs (Int32.toNatClampNeg (i + 7))) (xs (Int32.toNatClampNeg (i + 8))) post) (kk : ∀ x y f, post x y → AW X 8 (k + 1001) (n + 6006) (WL (cxG X) A x B y M o f) pl 3322 [some (.ref b), some (.ref (A 0)), some (.ref (B 0)), some (.ref o), some (.int i), none, none, none] []) : AW X 8 k n (WL (cxG X) A x B y M o f) pl 1294 [some (.ref b), some (.ref (A 0)), some (.ref (B 0)), some (.ref o), some (.int i), none, none, none] [] := by
  refine a_aload_n (pc := 1294) (i := 1) C dL_law_1294 rfl rfl ?_
  refine a_aload_n (pc := 1295) (i := 0) C dL_law_1295 rfl rfl ?_
  refine a_iload (pc := 1296) (i := 4) C dL_law_1296 rfl ?_
  refine a_iconst (pc := 1298) (v := 1) C dL_law_1298 rfl ?_
  refine a_iadd (pc := 1299) C dL_law_1299 ?_
  refine a_sld (pc := 1300) C dL_law_1300 (in_arg hi (by decide)) ?_
  refine a_aload_n (pc := 1301) (i := 0) C dL_law_1301 rfl rfl ?_
  refine a_iload (pc := 1302) (i := 4) C dL_law_1302 rfl ?_
  refine a_iconst (pc := 1304) (v := 2) C dL_law_1304 rfl ?_
  refine a_iadd (pc := 1305) C dL_law_1305 ?_
  refine a_sld (pc := 1306) C dL_law_1306 (in_arg hi (by decide)) ?_
  refine a_aload_n (pc := 1307) (i := 0) C dL_law_1307 rfl rfl ?_
  refine a_iload (pc := 1308) (i := 4) C dL_law_1308 rfl ?_
  refine a_iconst (pc := 1310) (v := 3) C dL_law_1310 rfl ?_
  refine a_iadd (pc := 1311) C dL_law_1311 ?_
  refine a_sld (pc := 1312) C dL_law_1312 (in_arg hi (by decide)) ?_
  refine a_aload_n (pc := 1313) (i := 0) C dL_law_1313 rfl rfl ?_
  refine a_iload (pc := 1314) (i := 4) C dL_law_1314 rfl ?_
  refine a_iconst (pc := 1316) (v := 4) C dL_law_1316 rfl ?_
  refine a_iadd (pc := 1317) C dL_law_1317 ?_
  refine a_sld (pc := 1318) C dL_law_1318 (in_arg hi (by decide)) ?_
  refine a_aload_n (pc := 1319) (i := 0) C dL_law_1319 rfl rfl ?_
  refine a_iload (pc := 1320) (i := 4) C dL_law_1320 rfl ?_
  refine a_iconst (pc := 1322) (v := 5) C dL_law_1322 rfl ?_
  refine a_iadd (pc := 1323) C dL_law_1323 ?_
  refine a_sld (pc := 1324) C dL_law_1324 (in_arg hi (by decide)) ?_
  refine a_aload_n (pc := 1325) (i := 0) C dL_law_1325 rfl rfl ?_
  refine a_iload (pc := 1326) (i := 4) C dL_law_1326 rfl ?_
  refine a_bipush (pc := 1328) (v := 6) C dL_law_1328 rfl ?_
  refine a_iadd (pc := 1330) C dL_law_1330 ?_
  refine a_sld (pc := 1331) C dL_law_1331 (in_arg hi (by decide)) ?_
  refine a_aload_n (pc := 1332) (i := 0) C dL_law_1332 rfl rfl ?_
  refine a_iload (pc := 1333) (i := 4) C dL_law_1333 rfl ?_
  refine a_bipush (pc := 1335) (v := 7) C dL_law_1335 rfl ?_
  refine a_iadd (pc := 1337) C dL_law_1337 ?_
  refine a_sld (pc := 1338) C dL_law_1338 (in_arg hi (by decide)) ?_
  refine a_aload_n (pc := 1339) (i := 0) C dL_law_1339 rfl rfl ?_
  refine a_iload (pc := 1340) (i := 4) C dL_law_1340 rfl ?_
  refine a_bipush (pc := 1342) (v := 8) C dL_law_1342 rfl ?_
  refine a_iadd (pc := 1344) C dL_law_1344 ?_
  refine a_sld (pc := 1345) C dL_law_1345 (in_arg hi (by decide)) ?_
  refine a_aload_n (pc := 1346) (i := 3) C dL_law_1346 rfl rfl ?_
  refine a_perm (pw3 _ _ _ _ _) ?_
  refine a_xSW (pc := 1347) (As := [.ref (A 0), .int (xs (Int32.toNatClampNeg (i + 1))), .int (xs (Int32.toNatClampNeg (i + 2))), .int (xs (Int32.toNatClampNeg (i + 3))), .int (xs (Int32.toNatClampNeg (i + 4))), .int (xs (Int32.toNatClampNeg (i + 5))), .int (xs (Int32.toNatClampNeg (i + 6))), .int (xs (Int32.toNatClampNeg (i + 7))), .int (xs (Int32.toNatClampNeg (i + 8))), .ref o]) (st := []) C (c_L_guessed (k_X11_guessed (ka := ka) hl0 (post := fun ov x => s2_guessed ov x y (xs (Int32.toNatClampNeg (i + 1))) (xs (Int32.toNatClampNeg (i + 2))) (xs (Int32.toNatClampNeg (i + 3))) (xs (Int32.toNatClampNeg (i + 4))) (xs (Int32.toNatClampNeg (i + 5))) (xs (Int32.toNatClampNeg (i + 6))) (xs (Int32.toNatClampNeg (i + 7))) (xs (Int32.toNatClampNeg (i + 8))) post) A (fun pl' hp => hw pl' (fun z hz => hp z (List.mem_cons_of_mem _ (List.mem_append_right _ (List.mem_append_right _ hz)))))) rfl) dL_law_1347 mth_L_guessed tml_L_130 (fun _ _ h => h.1.1) (FzD_ok ka) (rmXw (Nat.le_of_ble_eq_true rfl) hk hn) (Nat.le_of_ble_eq_true rfl) rfl rfl (fun r u hw => ?_)
  obtain ⟨ov, hw, hr⟩ := hpO_ov hw
  obtain ⟨u, f1⟩ := u
  dsimp only at hw hr
  refine a_perm (ws' := WL (cxG X) A (u1 (u1 (u1 (u1 (u1 (u1 (u1 (u1 (u1 (u1 (u1 x.1 30 u.2.1) 31 u.2.2.1) 32 u.2.2.2.1) 33 u.2.2.2.2.1) 34 u.2.2.2.2.2.1) 35 u.2.2.2.2.2.2.1) 36 u.2.2.2.2.2.2.2.1) 37 u.2.2.2.2.2.2.2.2.1) 38 u.2.2.2.2.2.2.2.2.2.1) 39 u.2.2.2.2.2.2.2.2.2.2.1) 40 u.2.2.2.2.2.2.2.2.2.2.2.1, u1 x.2.1 21 u.2.2.2.2.2.2.2.2.2.2.2.2.2.2, u1 (u1 x.2.2.1 10 u.2.2.2.2.2.2.2.2.2.2.2.2.1) 11 u.2.2.2.2.2.2.2.2.2.2.2.2.2.1, x.2.2.2.1, u.1, x.2.2.2.2.2.1, x.2.2.2.2.2.2) B y M o f1) (pl' := pl) (pw3 _ _ _ _ _).symm ?_
  generalize ((u1 (u1 (u1 (u1 (u1 (u1 (u1 (u1 (u1 (u1 (u1 x.1 30 u.2.1) 31 u.2.2.1) 32 u.2.2.2.1) 33 u.2.2.2.2.1) 34 u.2.2.2.2.2.1) 35 u.2.2.2.2.2.2.1) 36 u.2.2.2.2.2.2.2.1) 37 u.2.2.2.2.2.2.2.2.1) 38 u.2.2.2.2.2.2.2.2.2.1) 39 u.2.2.2.2.2.2.2.2.2.2.1) 40 u.2.2.2.2.2.2.2.2.2.2.2.1, u1 x.2.1 21 u.2.2.2.2.2.2.2.2.2.2.2.2.2.2, u1 (u1 x.2.2.1 10 u.2.2.2.2.2.2.2.2.2.2.2.2.1) 11 u.2.2.2.2.2.2.2.2.2.2.2.2.2.1, x.2.2.2.1, u.1, x.2.2.2.2.2.1, x.2.2.2.2.2.2) : XS) = x1 at hw ⊢
  refine a_istore (pc := 1350) (i := 5) C dL_law_1350 (Nat.le_of_ble_eq_true rfl) rfl ?_
  show AW X 8 (k + 1) (n + 6) (WL (cxG X) A x1 B y M o f1) pl 1352 [some (.ref b), some (.ref (A 0)), some (.ref (B 0)), some (.ref o), some (.int i), some (.int r), none, none] []
  refine a_aload_n (pc := 1352) (i := 2) C dL_law_1352 rfl rfl ?_
  refine a_aload_n (pc := 1353) (i := 0) C dL_law_1353 rfl rfl ?_
  refine a_iload (pc := 1354) (i := 4) C dL_law_1354 rfl ?_
  refine a_iconst (pc := 1356) (v := 1) C dL_law_1356 rfl ?_
  refine a_iadd (pc := 1357) C dL_law_1357 ?_
  refine a_sld (pc := 1358) C dL_law_1358 (in_arg hi (by decide)) ?_
  refine a_aload_n (pc := 1359) (i := 0) C dL_law_1359 rfl rfl ?_
  refine a_iload (pc := 1360) (i := 4) C dL_law_1360 rfl ?_
  refine a_iconst (pc := 1362) (v := 2) C dL_law_1362 rfl ?_
  refine a_iadd (pc := 1363) C dL_law_1363 ?_
  refine a_sld (pc := 1364) C dL_law_1364 (in_arg hi (by decide)) ?_
  refine a_aload_n (pc := 1365) (i := 0) C dL_law_1365 rfl rfl ?_
  refine a_iload (pc := 1366) (i := 4) C dL_law_1366 rfl ?_
  refine a_iconst (pc := 1368) (v := 3) C dL_law_1368 rfl ?_
  refine a_iadd (pc := 1369) C dL_law_1369 ?_
  refine a_sld (pc := 1370) C dL_law_1370 (in_arg hi (by decide)) ?_
  refine a_aload_n (pc := 1371) (i := 0) C dL_law_1371 rfl rfl ?_
  refine a_iload (pc := 1372) (i := 4) C dL_law_1372 rfl ?_
  refine a_iconst (pc := 1374) (v := 4) C dL_law_1374 rfl ?_
  refine a_iadd (pc := 1375) C dL_law_1375 ?_
  refine a_sld (pc := 1376) C dL_law_1376 (in_arg hi (by decide)) ?_
  refine a_aload_n (pc := 1377) (i := 0) C dL_law_1377 rfl rfl ?_
  refine a_iload (pc := 1378) (i := 4) C dL_law_1378 rfl ?_
  refine a_iconst (pc := 1380) (v := 5) C dL_law_1380 rfl ?_
  refine a_iadd (pc := 1381) C dL_law_1381 ?_
  refine a_sld (pc := 1382) C dL_law_1382 (in_arg hi (by decide)) ?_
  refine a_aload_n (pc := 1383) (i := 0) C dL_law_1383 rfl rfl ?_
  refine a_iload (pc := 1384) (i := 4) C dL_law_1384 rfl ?_
  refine a_bipush (pc := 1386) (v := 6) C dL_law_1386 rfl ?_
  refine a_iadd (pc := 1388) C dL_law_1388 ?_
  refine a_sld (pc := 1389) C dL_law_1389 (in_arg hi (by decide)) ?_
  refine a_aload_n (pc := 1390) (i := 0) C dL_law_1390 rfl rfl ?_
  refine a_iload (pc := 1391) (i := 4) C dL_law_1391 rfl ?_
  refine a_bipush (pc := 1393) (v := 7) C dL_law_1393 rfl ?_
  refine a_iadd (pc := 1395) C dL_law_1395 ?_
  refine a_sld (pc := 1396) C dL_law_1396 (in_arg hi (by decide)) ?_
  refine a_aload_n (pc := 1397) (i := 0) C dL_law_1397 rfl rfl ?_
  refine a_iload (pc := 1398) (i := 4) C dL_law_1398 rfl ?_
  refine a_bipush (pc := 1400) (v := 8) C dL_law_1400 rfl ?_
  refine a_iadd (pc := 1402) C dL_law_1402 ?_
  refine a_sld (pc := 1403) C dL_law_1403 (in_arg hi (by decide)) ?_
  refine a_perm (pw2 _ _ _ _) ?_
  refine a_xVl (pc := 1404) (As := [.int (xs (Int32.toNatClampNeg (i + 1))), .int (xs (Int32.toNatClampNeg (i + 2))), .int (xs (Int32.toNatClampNeg (i + 3))), .int (xs (Int32.toNatClampNeg (i + 4))), .int (xs (Int32.toNatClampNeg (i + 5))), .int (xs (Int32.toNatClampNeg (i + 6))), .int (xs (Int32.toNatClampNeg (i + 7))), .int (xs (Int32.toNatClampNeg (i + 8)))]) (st := []) C (k_X12_guessed (post := fun r2 y => s3L ov r2 x1 y post) B hw) dL_law_1404 mth_X12_guessed tml_L_133 (fun _ _ _ => trivial) Fz0_ok (rmLv (Nat.le_of_ble_eq_true rfl) (Nat.le_of_ble_eq_true rfl) hk hn) (Nat.le_of_ble_eq_true rfl) rfl rfl (ci := 12) rfl ⟨0, _, rfl⟩ (m := 30) (fun _ => rfl) (fun r2 u hw => ?_)
  refine a_perm (ws' := WL (cxG X) A x1 B (u1 (u1 y.1 0 u.1) 6 u.2.1, u1 (u1 (u1 (u1 (u1 y.2.1 10 u.2.2.1) 8 u.2.2.2.1) 9 u.2.2.2.2.1) 6 u.2.2.2.2.2.1) 7 u.2.2.2.2.2.2.1, u1 y.2.2 2 u.2.2.2.2.2.2.2) M o f1) (pl' := pl) (pw2 _ _ _ _).symm ?_
  generalize ((u1 (u1 y.1 0 u.1) 6 u.2.1, u1 (u1 (u1 (u1 (u1 y.2.1 10 u.2.2.1) 8 u.2.2.2.1) 9 u.2.2.2.2.1) 6 u.2.2.2.2.2.1) 7 u.2.2.2.2.2.2.1, u1 y.2.2 2 u.2.2.2.2.2.2.2) : YS) = y1 at hw ⊢
  refine a_lstore (pc := 1407) (i := 6) C dL_law_1407 (Nat.le_of_ble_eq_true rfl) rfl ?_
  show AW X 8 (k + 1) (n + 6) (WL (cxG X) A x1 B y1 M o f1) pl 1409 [some (.ref b), some (.ref (A 0)), some (.ref (B 0)), some (.ref o), some (.int i), some (.int r), some (.long r2), none] []
  refine a_aload_n (pc := 1409) (i := 2) C dL_law_1409 rfl rfl ?_
  refine a_perm (pw2 _ _ _ _) ?_
  refine a_xVi (pc := 1410) (As := []) (st := []) C (k_X12_thrown (post := fun t y => ((ov = none ∧ t = 1) ∨ (ov = some r2 ∧ t = 0)) ∧ post x1 y) B hw) dL_law_1410 mth_X12_thrown tml_L_98 (fun _ _ _ => trivial) Fz0_ok (rmLv (Nat.le_of_ble_eq_true rfl) (Nat.le_of_ble_eq_true rfl) hk hn) (Nat.le_of_ble_eq_true rfl) rfl rfl (ci := 12) rfl ⟨0, _, rfl⟩ (m := 30) (fun _ => rfl) (fun t u hw => ?_)
  refine a_perm (ws' := WL (cxG X) A x1 B y1 M o f1) (pl' := pl) (pw2 _ _ _ _).symm ?_
  refine a_iload (pc := 1413) (i := 5) C dL_law_1413 rfl ?_
  obtain ⟨ht, hp⟩ := hw
  have key : t = r ∧ (r = 0 → f1 0 = id r2) := by
    rcases hr with ⟨h1, v, h2, h3⟩ | ⟨h1, h2⟩
    · rcases ht with ⟨h4, -⟩ | ⟨h4, h5⟩
      · rw [h2] at h4; cases h4
      · rw [h2] at h4; cases h4; exact ⟨h5.trans h1.symm, fun _ => by rw [h3]; rfl⟩
    · rcases ht with ⟨-, h5⟩ | ⟨h4, -⟩
      · exact ⟨h5.trans h1.symm, fun z => by rw [h1] at z; exact absurd z (by decide)⟩
      · rw [h2] at h4; cases h4
  refine a_icmp_eq (pc := 1415) (tgt := 1420) C dL_law_1415 (by decide) (fun _ => ?_) (fun c => absurd key.1 c)
  have fin : AW X 8 (k + 1) (n + 6) (WL (cxG X) A x1 B y1 M o f1) pl 1436 [some (.ref b), some (.ref (A 0)), some (.ref (B 0)), some (.ref o), some (.int i), some (.int r), some (.long r2), none] [] := by
    refine a_goto (pc := 1436) (tgt := 3322) C dL_law_1436 (by decide) ?_
    refine a_msk [true, true, true, true, true, false, false, false] rfl ?_
    exact a_widen (by omega) (by omega) (kk _ _ _ hp)
  refine a_iload (pc := 1420) (i := 5) C dL_law_1420 rfl ?_
  refine a_if_ne (pc := 1422) (tgt := 1436) C dL_law_1422 (by decide) (fun _ => fin) (fun c => ?_)
  refine a_aload_n (pc := 1425) (i := 3) C dL_law_1425 rfl rfl ?_
  refine a_iconst (pc := 1426) (v := 0) C dL_law_1426 rfl ?_
  refine a_perm (pw4 _ _ _ _ _) ?_
  refine a_lald (pc := 1427) C dL_law_1427 0 rfl vp_in01 ?_
  refine a_perm (ws' := WL (cxG X) A x1 B y1 M o f1) (pl' := pl) (pw4 _ _ _ _ _).symm ?_
  refine a_lload (pc := 1428) (i := 6) C dL_law_1428 rfl ?_
  refine a_lcmp (pc := 1430) C dL_law_1430 ?_
  refine a_if_eq (pc := 1431) (tgt := 1436) C dL_law_1431 (by decide) (fun _ => fin) (fun z => absurd ?_ z)
  show lg_cmp (f1 0) ( r2) = 0
  rw [key.2 c]
  exact cmp_self _
set_option maxRecDepth 20000 in
theorem lc_crowd {X : Ctx} {ka : KA} {b L : Nat} {xs : Nat → Int32} (C : Cok X cL_law 8 RL room_1 (FzL ka b L xs)) {k n : Nat} (hk : k + 1001 ≤ 601024) (hn : n + 6006 ≤ 7293033) {i : Int32} (hi : 0 ≤ i.toInt ∧ i.toInt + 10 ≤ L ∧ L ≤ 5120) {A B : Nat → Nat} {x : XS} {y : YS} {M : MK} {o : Nat} {f : Nat → Int64} {pl : Pool} (hl0 : (cxL X).stackTraces = false) {post : XS → YS → Prop} (hw : s1_crowd pl x y (xs (Int32.toNatClampNeg (i + 1))) (xs (Int32.toNatClampNeg (i + 2))) (xs (Int32.toNatClampNeg (i + 3))) (xs (Int32.toNatClampNeg (i + 4))) (xs (Int32.toNatClampNeg (i + 5))) (xs (Int32.toNatClampNeg (i + 6))) (xs (Int32.toNatClampNeg (i + 7))) (xs (Int32.toNatClampNeg (i + 8))) (xs (Int32.toNatClampNeg (i + 9))) post) (kk : ∀ x y f, post x y → AW X 8 (k + 1001) (n + 6006) (WL (cxG X) A x B y M o f) pl 3322 [some (.ref b), some (.ref (A 0)), some (.ref (B 0)), some (.ref o), some (.int i), none, none, none] []) : AW X 8 k n (WL (cxG X) A x B y M o f) pl 1439 [some (.ref b), some (.ref (A 0)), some (.ref (B 0)), some (.ref o), some (.int i), none, none, none] [] := by
  refine a_aload_n (pc := 1439) (i := 1) C dL_law_1439 rfl rfl ?_
  refine a_aload_n (pc := 1440) (i := 0) C dL_law_1440 rfl rfl ?_
  refine a_iload (pc := 1441) (i := 4) C dL_law_1441 rfl ?_
  refine a_iconst (pc := 1443) (v := 1) C dL_law_1443 rfl ?_
  refine a_iadd (pc := 1444) C dL_law_1444 ?_
  refine a_sld (pc := 1445) C dL_law_1445 (in_arg hi (by decide)) ?_
  refine a_aload_n (pc := 1446) (i := 0) C dL_law_1446 rfl rfl ?_
  refine a_iload (pc := 1447) (i := 4) C dL_law_1447 rfl ?_
  refine a_iconst (pc := 1449) (v := 2) C dL_law_1449 rfl ?_
  refine a_iadd (pc := 1450) C dL_law_1450 ?_
  refine a_sld (pc := 1451) C dL_law_1451 (in_arg hi (by decide)) ?_
  refine a_aload_n (pc := 1452) (i := 0) C dL_law_1452 rfl rfl ?_
  refine a_iload (pc := 1453) (i := 4) C dL_law_1453 rfl ?_
  refine a_iconst (pc := 1455) (v := 3) C dL_law_1455 rfl ?_
  refine a_iadd (pc := 1456) C dL_law_1456 ?_
  refine a_sld (pc := 1457) C dL_law_1457 (in_arg hi (by decide)) ?_
  refine a_aload_n (pc := 1458) (i := 0) C dL_law_1458 rfl rfl ?_
  refine a_iload (pc := 1459) (i := 4) C dL_law_1459 rfl ?_
  refine a_iconst (pc := 1461) (v := 4) C dL_law_1461 rfl ?_
  refine a_iadd (pc := 1462) C dL_law_1462 ?_
  refine a_sld (pc := 1463) C dL_law_1463 (in_arg hi (by decide)) ?_
  refine a_aload_n (pc := 1464) (i := 0) C dL_law_1464 rfl rfl ?_
  refine a_iload (pc := 1465) (i := 4) C dL_law_1465 rfl ?_
  refine a_iconst (pc := 1467) (v := 5) C dL_law_1467 rfl ?_
  refine a_iadd (pc := 1468) C dL_law_1468 ?_
  refine a_sld (pc := 1469) C dL_law_1469 (in_arg hi (by decide)) ?_
  refine a_aload_n (pc := 1470) (i := 0) C dL_law_1470 rfl rfl ?_
  refine a_iload (pc := 1471) (i := 4) C dL_law_1471 rfl ?_
  refine a_bipush (pc := 1473) (v := 6) C dL_law_1473 rfl ?_
  refine a_iadd (pc := 1475) C dL_law_1475 ?_
  refine a_sld (pc := 1476) C dL_law_1476 (in_arg hi (by decide)) ?_
  refine a_aload_n (pc := 1477) (i := 0) C dL_law_1477 rfl rfl ?_
  refine a_iload (pc := 1478) (i := 4) C dL_law_1478 rfl ?_
  refine a_bipush (pc := 1480) (v := 7) C dL_law_1480 rfl ?_
  refine a_iadd (pc := 1482) C dL_law_1482 ?_
  refine a_sld (pc := 1483) C dL_law_1483 (in_arg hi (by decide)) ?_
  refine a_aload_n (pc := 1484) (i := 0) C dL_law_1484 rfl rfl ?_
  refine a_iload (pc := 1485) (i := 4) C dL_law_1485 rfl ?_
  refine a_bipush (pc := 1487) (v := 8) C dL_law_1487 rfl ?_
  refine a_iadd (pc := 1489) C dL_law_1489 ?_
  refine a_sld (pc := 1490) C dL_law_1490 (in_arg hi (by decide)) ?_
  refine a_aload_n (pc := 1491) (i := 0) C dL_law_1491 rfl rfl ?_
  refine a_iload (pc := 1492) (i := 4) C dL_law_1492 rfl ?_
  refine a_bipush (pc := 1494) (v := 9) C dL_law_1494 rfl ?_
  refine a_iadd (pc := 1496) C dL_law_1496 ?_
  refine a_sld (pc := 1497) C dL_law_1497 (in_arg hi (by decide)) ?_
  refine a_aload_n (pc := 1498) (i := 3) C dL_law_1498 rfl rfl ?_
  refine a_perm (pw3 _ _ _ _ _) ?_
  refine a_xSW (pc := 1499) (As := [.ref (A 0), .int (xs (Int32.toNatClampNeg (i + 1))), .int (xs (Int32.toNatClampNeg (i + 2))), .int (xs (Int32.toNatClampNeg (i + 3))), .int (xs (Int32.toNatClampNeg (i + 4))), .int (xs (Int32.toNatClampNeg (i + 5))), .int (xs (Int32.toNatClampNeg (i + 6))), .int (xs (Int32.toNatClampNeg (i + 7))), .int (xs (Int32.toNatClampNeg (i + 8))), .int (xs (Int32.toNatClampNeg (i + 9))), .ref o]) (st := []) C (c_L_crowd (k_X11_crowd (ka := ka) hl0 (post := fun ov x => s2_crowd ov x y (xs (Int32.toNatClampNeg (i + 1))) (xs (Int32.toNatClampNeg (i + 2))) (xs (Int32.toNatClampNeg (i + 3))) (xs (Int32.toNatClampNeg (i + 4))) (xs (Int32.toNatClampNeg (i + 5))) (xs (Int32.toNatClampNeg (i + 6))) (xs (Int32.toNatClampNeg (i + 7))) (xs (Int32.toNatClampNeg (i + 8))) (xs (Int32.toNatClampNeg (i + 9))) post) A (fun pl' hp => hw pl' (fun z hz => hp z (List.mem_cons_of_mem _ (List.mem_append_right _ (List.mem_append_right _ hz)))))) rfl) dL_law_1499 mth_L_crowd tml_L_134 (fun _ _ h => h.1.1) (FzD_ok ka) (rmXw (Nat.le_of_ble_eq_true rfl) hk hn) (Nat.le_of_ble_eq_true rfl) rfl rfl (fun r u hw => ?_)
  obtain ⟨ov, hw, hr⟩ := hpO_ov hw
  obtain ⟨u, f1⟩ := u
  dsimp only at hw hr
  refine a_perm (ws' := WL (cxG X) A (u1 (u1 (u1 (u1 (u1 (u1 (u1 (u1 (u1 (u1 (u1 (u1 (u1 (u1 (u1 (u1 (u1 (u1 (u1 (u1 x.1 30 u.2.2.1) 31 u.2.2.2.1) 32 u.2.2.2.2.1) 33 u.2.2.2.2.2.1) 34 u.2.2.2.2.2.2.1) 35 u.2.2.2.2.2.2.2.1) 36 u.2.2.2.2.2.2.2.2.1) 37 u.2.2.2.2.2.2.2.2.2.1) 38 u.2.2.2.2.2.2.2.2.2.2.1) 39 u.2.2.2.2.2.2.2.2.2.2.2.1) 40 u.2.2.2.2.2.2.2.2.2.2.2.2.1) 41 u.2.2.2.2.2.2.2.2.2.2.2.2.2.1) 46 u.2.2.2.2.2.2.2.2.2.2.2.2.2.2.2.1) 47 u.2.2.2.2.2.2.2.2.2.2.2.2.2.2.2.2.1) 48 u.2.2.2.2.2.2.2.2.2.2.2.2.2.2.2.2.2.1) 49 u.2.2.2.2.2.2.2.2.2.2.2.2.2.2.2.2.2.2.1) 50 u.2.2.2.2.2.2.2.2.2.2.2.2.2.2.2.2.2.2.2.1) 51 u.2.2.2.2.2.2.2.2.2.2.2.2.2.2.2.2.2.2.2.2.1) 52 u.2.2.2.2.2.2.2.2.2.2.2.2.2.2.2.2.2.2.2.2.2.1) 42 u.2.2.2.2.2.2.2.2.2.2.2.2.2.2.2.2.2.2.2.2.2.2.2.2.2.2.1, u1 (u1 (u1 (u1 (u1 (u1 x.2.1 26 u.2.2.2.2.2.2.2.2.2.2.2.2.2.2.2.2.2.2.2.2.2.2.1) 21 u.2.2.2.2.2.2.2.2.2.2.2.2.2.2.2.2.2.2.2.2.2.2.2.2.1) 22 u.2.2.2.2.2.2.2.2.2.2.2.2.2.2.2.2.2.2.2.2.2.2.2.2.2.1) 24 u.2.2.2.2.2.2.2.2.2.2.2.2.2.2.2.2.2.2.2.2.2.2.2.2.2.2.2.1) 23 u.2.2.2.2.2.2.2.2.2.2.2.2.2.2.2.2.2.2.2.2.2.2.2.2.2.2.2.2.1) 25 u.2.2.2.2.2.2.2.2.2.2.2.2.2.2.2.2.2.2.2.2.2.2.2.2.2.2.2.2.2, u1 (u1 x.2.2.1 10 u.2.2.2.2.2.2.2.2.2.2.2.2.2.2.1) 11 u.2.2.2.2.2.2.2.2.2.2.2.2.2.2.2.2.2.2.2.2.2.2.2.1, x.2.2.2.1, u.2.1, u.1, x.2.2.2.2.2.2) B y M o f1) (pl' := pl) (pw3 _ _ _ _ _).symm ?_
  generalize ((u1 (u1 (u1 (u1 (u1 (u1 (u1 (u1 (u1 (u1 (u1 (u1 (u1 (u1 (u1 (u1 (u1 (u1 (u1 (u1 x.1 30 u.2.2.1) 31 u.2.2.2.1) 32 u.2.2.2.2.1) 33 u.2.2.2.2.2.1) 34 u.2.2.2.2.2.2.1) 35 u.2.2.2.2.2.2.2.1) 36 u.2.2.2.2.2.2.2.2.1) 37 u.2.2.2.2.2.2.2.2.2.1) 38 u.2.2.2.2.2.2.2.2.2.2.1) 39 u.2.2.2.2.2.2.2.2.2.2.2.1) 40 u.2.2.2.2.2.2.2.2.2.2.2.2.1) 41 u.2.2.2.2.2.2.2.2.2.2.2.2.2.1) 46 u.2.2.2.2.2.2.2.2.2.2.2.2.2.2.2.1) 47 u.2.2.2.2.2.2.2.2.2.2.2.2.2.2.2.2.1) 48 u.2.2.2.2.2.2.2.2.2.2.2.2.2.2.2.2.2.1) 49 u.2.2.2.2.2.2.2.2.2.2.2.2.2.2.2.2.2.2.1) 50 u.2.2.2.2.2.2.2.2.2.2.2.2.2.2.2.2.2.2.2.1) 51 u.2.2.2.2.2.2.2.2.2.2.2.2.2.2.2.2.2.2.2.2.1) 52 u.2.2.2.2.2.2.2.2.2.2.2.2.2.2.2.2.2.2.2.2.2.1) 42 u.2.2.2.2.2.2.2.2.2.2.2.2.2.2.2.2.2.2.2.2.2.2.2.2.2.2.1, u1 (u1 (u1 (u1 (u1 (u1 x.2.1 26 u.2.2.2.2.2.2.2.2.2.2.2.2.2.2.2.2.2.2.2.2.2.2.1) 21 u.2.2.2.2.2.2.2.2.2.2.2.2.2.2.2.2.2.2.2.2.2.2.2.2.1) 22 u.2.2.2.2.2.2.2.2.2.2.2.2.2.2.2.2.2.2.2.2.2.2.2.2.2.1) 24 u.2.2.2.2.2.2.2.2.2.2.2.2.2.2.2.2.2.2.2.2.2.2.2.2.2.2.2.1) 23 u.2.2.2.2.2.2.2.2.2.2.2.2.2.2.2.2.2.2.2.2.2.2.2.2.2.2.2.2.1) 25 u.2.2.2.2.2.2.2.2.2.2.2.2.2.2.2.2.2.2.2.2.2.2.2.2.2.2.2.2.2, u1 (u1 x.2.2.1 10 u.2.2.2.2.2.2.2.2.2.2.2.2.2.2.1) 11 u.2.2.2.2.2.2.2.2.2.2.2.2.2.2.2.2.2.2.2.2.2.2.2.1, x.2.2.2.1, u.2.1, u.1, x.2.2.2.2.2.2) : XS) = x1 at hw ⊢
  refine a_istore (pc := 1502) (i := 5) C dL_law_1502 (Nat.le_of_ble_eq_true rfl) rfl ?_
  show AW X 8 (k + 1) (n + 6) (WL (cxG X) A x1 B y M o f1) pl 1504 [some (.ref b), some (.ref (A 0)), some (.ref (B 0)), some (.ref o), some (.int i), some (.int r), none, none] []
  refine a_aload_n (pc := 1504) (i := 2) C dL_law_1504 rfl rfl ?_
  refine a_aload_n (pc := 1505) (i := 0) C dL_law_1505 rfl rfl ?_
  refine a_iload (pc := 1506) (i := 4) C dL_law_1506 rfl ?_
  refine a_iconst (pc := 1508) (v := 1) C dL_law_1508 rfl ?_
  refine a_iadd (pc := 1509) C dL_law_1509 ?_
  refine a_sld (pc := 1510) C dL_law_1510 (in_arg hi (by decide)) ?_
  refine a_aload_n (pc := 1511) (i := 0) C dL_law_1511 rfl rfl ?_
  refine a_iload (pc := 1512) (i := 4) C dL_law_1512 rfl ?_
  refine a_iconst (pc := 1514) (v := 2) C dL_law_1514 rfl ?_
  refine a_iadd (pc := 1515) C dL_law_1515 ?_
  refine a_sld (pc := 1516) C dL_law_1516 (in_arg hi (by decide)) ?_
  refine a_aload_n (pc := 1517) (i := 0) C dL_law_1517 rfl rfl ?_
  refine a_iload (pc := 1518) (i := 4) C dL_law_1518 rfl ?_
  refine a_iconst (pc := 1520) (v := 3) C dL_law_1520 rfl ?_
  refine a_iadd (pc := 1521) C dL_law_1521 ?_
  refine a_sld (pc := 1522) C dL_law_1522 (in_arg hi (by decide)) ?_
  refine a_aload_n (pc := 1523) (i := 0) C dL_law_1523 rfl rfl ?_
  refine a_iload (pc := 1524) (i := 4) C dL_law_1524 rfl ?_
  refine a_iconst (pc := 1526) (v := 4) C dL_law_1526 rfl ?_
  refine a_iadd (pc := 1527) C dL_law_1527 ?_
  refine a_sld (pc := 1528) C dL_law_1528 (in_arg hi (by decide)) ?_
  refine a_aload_n (pc := 1529) (i := 0) C dL_law_1529 rfl rfl ?_
  refine a_iload (pc := 1530) (i := 4) C dL_law_1530 rfl ?_
  refine a_iconst (pc := 1532) (v := 5) C dL_law_1532 rfl ?_
  refine a_iadd (pc := 1533) C dL_law_1533 ?_
  refine a_sld (pc := 1534) C dL_law_1534 (in_arg hi (by decide)) ?_
  refine a_aload_n (pc := 1535) (i := 0) C dL_law_1535 rfl rfl ?_
  refine a_iload (pc := 1536) (i := 4) C dL_law_1536 rfl ?_
  refine a_bipush (pc := 1538) (v := 6) C dL_law_1538 rfl ?_
  refine a_iadd (pc := 1540) C dL_law_1540 ?_
  refine a_sld (pc := 1541) C dL_law_1541 (in_arg hi (by decide)) ?_
  refine a_aload_n (pc := 1542) (i := 0) C dL_law_1542 rfl rfl ?_
  refine a_iload (pc := 1543) (i := 4) C dL_law_1543 rfl ?_
  refine a_bipush (pc := 1545) (v := 7) C dL_law_1545 rfl ?_
  refine a_iadd (pc := 1547) C dL_law_1547 ?_
  refine a_sld (pc := 1548) C dL_law_1548 (in_arg hi (by decide)) ?_
  refine a_aload_n (pc := 1549) (i := 0) C dL_law_1549 rfl rfl ?_
  refine a_iload (pc := 1550) (i := 4) C dL_law_1550 rfl ?_
  refine a_bipush (pc := 1552) (v := 8) C dL_law_1552 rfl ?_
  refine a_iadd (pc := 1554) C dL_law_1554 ?_
  refine a_sld (pc := 1555) C dL_law_1555 (in_arg hi (by decide)) ?_
  refine a_aload_n (pc := 1556) (i := 0) C dL_law_1556 rfl rfl ?_
  refine a_iload (pc := 1557) (i := 4) C dL_law_1557 rfl ?_
  refine a_bipush (pc := 1559) (v := 9) C dL_law_1559 rfl ?_
  refine a_iadd (pc := 1561) C dL_law_1561 ?_
  refine a_sld (pc := 1562) C dL_law_1562 (in_arg hi (by decide)) ?_
  refine a_perm (pw2 _ _ _ _) ?_
  refine a_xVi (pc := 1563) (As := [.int (xs (Int32.toNatClampNeg (i + 1))), .int (xs (Int32.toNatClampNeg (i + 2))), .int (xs (Int32.toNatClampNeg (i + 3))), .int (xs (Int32.toNatClampNeg (i + 4))), .int (xs (Int32.toNatClampNeg (i + 5))), .int (xs (Int32.toNatClampNeg (i + 6))), .int (xs (Int32.toNatClampNeg (i + 7))), .int (xs (Int32.toNatClampNeg (i + 8))), .int (xs (Int32.toNatClampNeg (i + 9)))]) (st := []) C (k_X12_crowd (post := fun r2 y => s3I ov r2 x1 y post) B hw) dL_law_1563 mth_X12_crowd tml_L_137 (fun _ _ _ => trivial) Fz0_ok (rmLv (Nat.le_of_ble_eq_true rfl) (Nat.le_of_ble_eq_true rfl) hk hn) (Nat.le_of_ble_eq_true rfl) rfl rfl (ci := 12) rfl ⟨0, _, rfl⟩ (m := 30) (fun _ => rfl) (fun r2 u hw => ?_)
  refine a_perm (ws' := WL (cxG X) A x1 B (u1 (u1 (u1 (u1 y.1 0 u.1) 6 u.2.1) 7 u.2.2.1) 8 u.2.2.2.1, u1 (u1 (u1 (u1 (u1 (u1 (u1 (u1 (u1 (u1 (u1 y.2.1 17 u.2.2.2.2.1) 8 u.2.2.2.2.2.1) 10 u.2.2.2.2.2.2.1) 9 u.2.2.2.2.2.2.2.1) 6 u.2.2.2.2.2.2.2.2.1) 7 u.2.2.2.2.2.2.2.2.2.1) 11 u.2.2.2.2.2.2.2.2.2.2.1) 12 u.2.2.2.2.2.2.2.2.2.2.2.1) 13 u.2.2.2.2.2.2.2.2.2.2.2.2.1) 15 u.2.2.2.2.2.2.2.2.2.2.2.2.2.1) 14 u.2.2.2.2.2.2.2.2.2.2.2.2.2.2, y.2.2) M o f1) (pl' := pl) (pw2 _ _ _ _).symm ?_
  generalize ((u1 (u1 (u1 (u1 y.1 0 u.1) 6 u.2.1) 7 u.2.2.1) 8 u.2.2.2.1, u1 (u1 (u1 (u1 (u1 (u1 (u1 (u1 (u1 (u1 (u1 y.2.1 17 u.2.2.2.2.1) 8 u.2.2.2.2.2.1) 10 u.2.2.2.2.2.2.1) 9 u.2.2.2.2.2.2.2.1) 6 u.2.2.2.2.2.2.2.2.1) 7 u.2.2.2.2.2.2.2.2.2.1) 11 u.2.2.2.2.2.2.2.2.2.2.1) 12 u.2.2.2.2.2.2.2.2.2.2.2.1) 13 u.2.2.2.2.2.2.2.2.2.2.2.2.1) 15 u.2.2.2.2.2.2.2.2.2.2.2.2.2.1) 14 u.2.2.2.2.2.2.2.2.2.2.2.2.2.2, y.2.2) : YS) = y1 at hw ⊢
  refine a_istore (pc := 1566) (i := 6) C dL_law_1566 (Nat.le_of_ble_eq_true rfl) rfl ?_
  show AW X 8 (k + 1) (n + 6) (WL (cxG X) A x1 B y1 M o f1) pl 1568 [some (.ref b), some (.ref (A 0)), some (.ref (B 0)), some (.ref o), some (.int i), some (.int r), some (.int r2), none] []
  refine a_aload_n (pc := 1568) (i := 2) C dL_law_1568 rfl rfl ?_
  refine a_perm (pw2 _ _ _ _) ?_
  refine a_xVi (pc := 1569) (As := []) (st := []) C (k_X12_thrown (post := fun t y => ((ov = none ∧ t = 1) ∨ (ov = some r2 ∧ t = 0)) ∧ post x1 y) B hw) dL_law_1569 mth_X12_thrown tml_L_98 (fun _ _ _ => trivial) Fz0_ok (rmLv (Nat.le_of_ble_eq_true rfl) (Nat.le_of_ble_eq_true rfl) hk hn) (Nat.le_of_ble_eq_true rfl) rfl rfl (ci := 12) rfl ⟨0, _, rfl⟩ (m := 30) (fun _ => rfl) (fun t u hw => ?_)
  refine a_perm (ws' := WL (cxG X) A x1 B y1 M o f1) (pl' := pl) (pw2 _ _ _ _).symm ?_
  refine a_iload (pc := 1572) (i := 5) C dL_law_1572 rfl ?_
  obtain ⟨ht, hp⟩ := hw
  have key : t = r ∧ (r = 0 → f1 0 = Int32.toInt64 r2) := by
    rcases hr with ⟨h1, v, h2, h3⟩ | ⟨h1, h2⟩
    · rcases ht with ⟨h4, -⟩ | ⟨h4, h5⟩
      · rw [h2] at h4; cases h4
      · rw [h2] at h4; cases h4; exact ⟨h5.trans h1.symm, fun _ => by rw [h3]; rfl⟩
    · rcases ht with ⟨-, h5⟩ | ⟨h4, -⟩
      · exact ⟨h5.trans h1.symm, fun z => by rw [h1] at z; exact absurd z (by decide)⟩
      · rw [h2] at h4; cases h4
  refine a_icmp_eq (pc := 1574) (tgt := 1579) C dL_law_1574 (by decide) (fun _ => ?_) (fun c => absurd key.1 c)
  have fin : AW X 8 (k + 1) (n + 6) (WL (cxG X) A x1 B y1 M o f1) pl 1596 [some (.ref b), some (.ref (A 0)), some (.ref (B 0)), some (.ref o), some (.int i), some (.int r), some (.int r2), none] [] := by
    refine a_goto (pc := 1596) (tgt := 3322) C dL_law_1596 (by decide) ?_
    refine a_msk [true, true, true, true, true, false, false, false] rfl ?_
    exact a_widen (by omega) (by omega) (kk _ _ _ hp)
  refine a_iload (pc := 1579) (i := 5) C dL_law_1579 rfl ?_
  refine a_if_ne (pc := 1581) (tgt := 1596) C dL_law_1581 (by decide) (fun _ => fin) (fun c => ?_)
  refine a_aload_n (pc := 1584) (i := 3) C dL_law_1584 rfl rfl ?_
  refine a_iconst (pc := 1585) (v := 0) C dL_law_1585 rfl ?_
  refine a_perm (pw4 _ _ _ _ _) ?_
  refine a_lald (pc := 1586) C dL_law_1586 0 rfl vp_in01 ?_
  refine a_perm (ws' := WL (cxG X) A x1 B y1 M o f1) (pl' := pl) (pw4 _ _ _ _ _).symm ?_
  refine a_iload (pc := 1587) (i := 6) C dL_law_1587 rfl ?_
  refine a_i2l (pc := 1589) C dL_law_1589 ?_
  refine a_lcmp (pc := 1590) C dL_law_1590 ?_
  refine a_if_eq (pc := 1591) (tgt := 1596) C dL_law_1591 (by decide) (fun _ => fin) (fun z => absurd ?_ z)
  show lg_cmp (f1 0) (Int32.toInt64 r2) = 0
  rw [key.2 c]
  exact cmp_self _
set_option maxRecDepth 20000 in
theorem lc_plant {X : Ctx} {ka : KA} {b L : Nat} {xs : Nat → Int32} (C : Cok X cL_law 8 RL room_1 (FzL ka b L xs)) {k n : Nat} (hk : k + 1001 ≤ 601024) (hn : n + 6006 ≤ 7293033) {i : Int32} (hi : 0 ≤ i.toInt ∧ i.toInt + 10 ≤ L ∧ L ≤ 5120) {A B : Nat → Nat} {x : XS} {y : YS} {M : MK} {o : Nat} {f : Nat → Int64} {pl : Pool} (hl0 : (cxL X).stackTraces = false) {post : XS → YS → Prop} (hw : s1_plant pl x y (xs (Int32.toNatClampNeg (i + 1))) (xs (Int32.toNatClampNeg (i + 2))) (xs (Int32.toNatClampNeg (i + 3))) (xs (Int32.toNatClampNeg (i + 4))) (xs (Int32.toNatClampNeg (i + 5))) (xs (Int32.toNatClampNeg (i + 6))) (xs (Int32.toNatClampNeg (i + 7))) post) (kk : ∀ x y f, post x y → AW X 8 (k + 1001) (n + 6006) (WL (cxG X) A x B y M o f) pl 3322 [some (.ref b), some (.ref (A 0)), some (.ref (B 0)), some (.ref o), some (.int i), none, none, none] []) : AW X 8 k n (WL (cxG X) A x B y M o f) pl 1599 [some (.ref b), some (.ref (A 0)), some (.ref (B 0)), some (.ref o), some (.int i), none, none, none] [] := by
  refine a_aload_n (pc := 1599) (i := 1) C dL_law_1599 rfl rfl ?_
  refine a_aload_n (pc := 1600) (i := 0) C dL_law_1600 rfl rfl ?_
  refine a_iload (pc := 1601) (i := 4) C dL_law_1601 rfl ?_
  refine a_iconst (pc := 1603) (v := 1) C dL_law_1603 rfl ?_
  refine a_iadd (pc := 1604) C dL_law_1604 ?_
  refine a_sld (pc := 1605) C dL_law_1605 (in_arg hi (by decide)) ?_
  refine a_aload_n (pc := 1606) (i := 0) C dL_law_1606 rfl rfl ?_
  refine a_iload (pc := 1607) (i := 4) C dL_law_1607 rfl ?_
  refine a_iconst (pc := 1609) (v := 2) C dL_law_1609 rfl ?_
  refine a_iadd (pc := 1610) C dL_law_1610 ?_
  refine a_sld (pc := 1611) C dL_law_1611 (in_arg hi (by decide)) ?_
  refine a_aload_n (pc := 1612) (i := 0) C dL_law_1612 rfl rfl ?_
  refine a_iload (pc := 1613) (i := 4) C dL_law_1613 rfl ?_
  refine a_iconst (pc := 1615) (v := 3) C dL_law_1615 rfl ?_
  refine a_iadd (pc := 1616) C dL_law_1616 ?_
  refine a_sld (pc := 1617) C dL_law_1617 (in_arg hi (by decide)) ?_
  refine a_aload_n (pc := 1618) (i := 0) C dL_law_1618 rfl rfl ?_
  refine a_iload (pc := 1619) (i := 4) C dL_law_1619 rfl ?_
  refine a_iconst (pc := 1621) (v := 4) C dL_law_1621 rfl ?_
  refine a_iadd (pc := 1622) C dL_law_1622 ?_
  refine a_sld (pc := 1623) C dL_law_1623 (in_arg hi (by decide)) ?_
  refine a_aload_n (pc := 1624) (i := 0) C dL_law_1624 rfl rfl ?_
  refine a_iload (pc := 1625) (i := 4) C dL_law_1625 rfl ?_
  refine a_iconst (pc := 1627) (v := 5) C dL_law_1627 rfl ?_
  refine a_iadd (pc := 1628) C dL_law_1628 ?_
  refine a_sld (pc := 1629) C dL_law_1629 (in_arg hi (by decide)) ?_
  refine a_aload_n (pc := 1630) (i := 0) C dL_law_1630 rfl rfl ?_
  refine a_iload (pc := 1631) (i := 4) C dL_law_1631 rfl ?_
  refine a_bipush (pc := 1633) (v := 6) C dL_law_1633 rfl ?_
  refine a_iadd (pc := 1635) C dL_law_1635 ?_
  refine a_sld (pc := 1636) C dL_law_1636 (in_arg hi (by decide)) ?_
  refine a_aload_n (pc := 1637) (i := 0) C dL_law_1637 rfl rfl ?_
  refine a_iload (pc := 1638) (i := 4) C dL_law_1638 rfl ?_
  refine a_bipush (pc := 1640) (v := 7) C dL_law_1640 rfl ?_
  refine a_iadd (pc := 1642) C dL_law_1642 ?_
  refine a_sld (pc := 1643) C dL_law_1643 (in_arg hi (by decide)) ?_
  refine a_aload_n (pc := 1644) (i := 3) C dL_law_1644 rfl rfl ?_
  refine a_perm (pw3 _ _ _ _ _) ?_
  refine a_xSW (pc := 1645) (As := [.ref (A 0), .int (xs (Int32.toNatClampNeg (i + 1))), .int (xs (Int32.toNatClampNeg (i + 2))), .int (xs (Int32.toNatClampNeg (i + 3))), .int (xs (Int32.toNatClampNeg (i + 4))), .int (xs (Int32.toNatClampNeg (i + 5))), .int (xs (Int32.toNatClampNeg (i + 6))), .int (xs (Int32.toNatClampNeg (i + 7))), .ref o]) (st := []) C (c_L_plant (k_X11_plant (ka := ka) hl0 (post := fun ov x => s2_plant ov x y (xs (Int32.toNatClampNeg (i + 1))) (xs (Int32.toNatClampNeg (i + 2))) (xs (Int32.toNatClampNeg (i + 3))) (xs (Int32.toNatClampNeg (i + 4))) (xs (Int32.toNatClampNeg (i + 5))) (xs (Int32.toNatClampNeg (i + 6))) (xs (Int32.toNatClampNeg (i + 7))) post) A (fun pl' hp => hw pl' (fun z hz => hp z (List.mem_cons_of_mem _ (List.mem_append_right _ (List.mem_append_right _ hz)))))) rfl) dL_law_1645 mth_L_plant tml_L_138 (fun _ _ h => h.1.1) (FzD_ok ka) (rmXw (Nat.le_of_ble_eq_true rfl) hk hn) (Nat.le_of_ble_eq_true rfl) rfl rfl (fun r u hw => ?_)
  obtain ⟨ov, hw, hr⟩ := hpO_ov hw
  obtain ⟨u, f1⟩ := u
  dsimp only at hw hr
  refine a_perm (ws' := WL (cxG X) A (u1 (u1 (u1 (u1 (u1 (u1 (u1 (u1 (u1 (u1 (u1 (u1 (u1 (u1 x.1 30 u.2.1) 31 u.2.2.1) 32 u.2.2.2.1) 33 u.2.2.2.2.1) 34 u.2.2.2.2.2.1) 35 u.2.2.2.2.2.2.1) 36 u.2.2.2.2.2.2.2.1) 37 u.2.2.2.2.2.2.2.2.1) 38 u.2.2.2.2.2.2.2.2.2.1) 39 u.2.2.2.2.2.2.2.2.2.2.1) 40 u.2.2.2.2.2.2.2.2.2.2.2.1) 43 u.2.2.2.2.2.2.2.2.2.2.2.2.2.2.2.1) 44 u.2.2.2.2.2.2.2.2.2.2.2.2.2.2.2.2.1) 45 u.2.2.2.2.2.2.2.2.2.2.2.2.2.2.2.2.2.1, u1 (u1 x.2.1 21 u.2.2.2.2.2.2.2.2.2.2.2.2.2.2.1) 22 u.2.2.2.2.2.2.2.2.2.2.2.2.2.2.2.2.2.2.1, u1 (u1 (u1 (u1 x.2.2.1 10 u.2.2.2.2.2.2.2.2.2.2.2.2.1) 11 u.2.2.2.2.2.2.2.2.2.2.2.2.2.1) 13 u.2.2.2.2.2.2.2.2.2.2.2.2.2.2.2.2.2.2.2.1) 12 u.2.2.2.2.2.2.2.2.2.2.2.2.2.2.2.2.2.2.2.2, x.2.2.2.1, u.1, x.2.2.2.2.2.1, x.2.2.2.2.2.2) B y M o f1) (pl' := pl) (pw3 _ _ _ _ _).symm ?_
  generalize ((u1 (u1 (u1 (u1 (u1 (u1 (u1 (u1 (u1 (u1 (u1 (u1 (u1 (u1 x.1 30 u.2.1) 31 u.2.2.1) 32 u.2.2.2.1) 33 u.2.2.2.2.1) 34 u.2.2.2.2.2.1) 35 u.2.2.2.2.2.2.1) 36 u.2.2.2.2.2.2.2.1) 37 u.2.2.2.2.2.2.2.2.1) 38 u.2.2.2.2.2.2.2.2.2.1) 39 u.2.2.2.2.2.2.2.2.2.2.1) 40 u.2.2.2.2.2.2.2.2.2.2.2.1) 43 u.2.2.2.2.2.2.2.2.2.2.2.2.2.2.2.1) 44 u.2.2.2.2.2.2.2.2.2.2.2.2.2.2.2.2.1) 45 u.2.2.2.2.2.2.2.2.2.2.2.2.2.2.2.2.2.1, u1 (u1 x.2.1 21 u.2.2.2.2.2.2.2.2.2.2.2.2.2.2.1) 22 u.2.2.2.2.2.2.2.2.2.2.2.2.2.2.2.2.2.2.1, u1 (u1 (u1 (u1 x.2.2.1 10 u.2.2.2.2.2.2.2.2.2.2.2.2.1) 11 u.2.2.2.2.2.2.2.2.2.2.2.2.2.1) 13 u.2.2.2.2.2.2.2.2.2.2.2.2.2.2.2.2.2.2.2.1) 12 u.2.2.2.2.2.2.2.2.2.2.2.2.2.2.2.2.2.2.2.2, x.2.2.2.1, u.1, x.2.2.2.2.2.1, x.2.2.2.2.2.2) : XS) = x1 at hw ⊢
  refine a_istore (pc := 1648) (i := 5) C dL_law_1648 (Nat.le_of_ble_eq_true rfl) rfl ?_
  show AW X 8 (k + 1) (n + 6) (WL (cxG X) A x1 B y M o f1) pl 1650 [some (.ref b), some (.ref (A 0)), some (.ref (B 0)), some (.ref o), some (.int i), some (.int r), none, none] []
  refine a_aload_n (pc := 1650) (i := 2) C dL_law_1650 rfl rfl ?_
  refine a_aload_n (pc := 1651) (i := 0) C dL_law_1651 rfl rfl ?_
  refine a_iload (pc := 1652) (i := 4) C dL_law_1652 rfl ?_
  refine a_iconst (pc := 1654) (v := 1) C dL_law_1654 rfl ?_
  refine a_iadd (pc := 1655) C dL_law_1655 ?_
  refine a_sld (pc := 1656) C dL_law_1656 (in_arg hi (by decide)) ?_
  refine a_aload_n (pc := 1657) (i := 0) C dL_law_1657 rfl rfl ?_
  refine a_iload (pc := 1658) (i := 4) C dL_law_1658 rfl ?_
  refine a_iconst (pc := 1660) (v := 2) C dL_law_1660 rfl ?_
  refine a_iadd (pc := 1661) C dL_law_1661 ?_
  refine a_sld (pc := 1662) C dL_law_1662 (in_arg hi (by decide)) ?_
  refine a_aload_n (pc := 1663) (i := 0) C dL_law_1663 rfl rfl ?_
  refine a_iload (pc := 1664) (i := 4) C dL_law_1664 rfl ?_
  refine a_iconst (pc := 1666) (v := 3) C dL_law_1666 rfl ?_
  refine a_iadd (pc := 1667) C dL_law_1667 ?_
  refine a_sld (pc := 1668) C dL_law_1668 (in_arg hi (by decide)) ?_
  refine a_aload_n (pc := 1669) (i := 0) C dL_law_1669 rfl rfl ?_
  refine a_iload (pc := 1670) (i := 4) C dL_law_1670 rfl ?_
  refine a_iconst (pc := 1672) (v := 4) C dL_law_1672 rfl ?_
  refine a_iadd (pc := 1673) C dL_law_1673 ?_
  refine a_sld (pc := 1674) C dL_law_1674 (in_arg hi (by decide)) ?_
  refine a_aload_n (pc := 1675) (i := 0) C dL_law_1675 rfl rfl ?_
  refine a_iload (pc := 1676) (i := 4) C dL_law_1676 rfl ?_
  refine a_iconst (pc := 1678) (v := 5) C dL_law_1678 rfl ?_
  refine a_iadd (pc := 1679) C dL_law_1679 ?_
  refine a_sld (pc := 1680) C dL_law_1680 (in_arg hi (by decide)) ?_
  refine a_aload_n (pc := 1681) (i := 0) C dL_law_1681 rfl rfl ?_
  refine a_iload (pc := 1682) (i := 4) C dL_law_1682 rfl ?_
  refine a_bipush (pc := 1684) (v := 6) C dL_law_1684 rfl ?_
  refine a_iadd (pc := 1686) C dL_law_1686 ?_
  refine a_sld (pc := 1687) C dL_law_1687 (in_arg hi (by decide)) ?_
  refine a_aload_n (pc := 1688) (i := 0) C dL_law_1688 rfl rfl ?_
  refine a_iload (pc := 1689) (i := 4) C dL_law_1689 rfl ?_
  refine a_bipush (pc := 1691) (v := 7) C dL_law_1691 rfl ?_
  refine a_iadd (pc := 1693) C dL_law_1693 ?_
  refine a_sld (pc := 1694) C dL_law_1694 (in_arg hi (by decide)) ?_
  refine a_perm (pw2 _ _ _ _) ?_
  refine a_xVi (pc := 1695) (As := [.int (xs (Int32.toNatClampNeg (i + 1))), .int (xs (Int32.toNatClampNeg (i + 2))), .int (xs (Int32.toNatClampNeg (i + 3))), .int (xs (Int32.toNatClampNeg (i + 4))), .int (xs (Int32.toNatClampNeg (i + 5))), .int (xs (Int32.toNatClampNeg (i + 6))), .int (xs (Int32.toNatClampNeg (i + 7)))]) (st := []) C (k_X12_plant (post := fun r2 y => s3I ov r2 x1 y post) B hw) dL_law_1695 mth_X12_plant tml_L_141 (fun _ _ _ => trivial) Fz0_ok (rmLv (Nat.le_of_ble_eq_true rfl) (Nat.le_of_ble_eq_true rfl) hk hn) (Nat.le_of_ble_eq_true rfl) rfl rfl (ci := 12) rfl ⟨0, _, rfl⟩ (m := 30) (fun _ => rfl) (fun r2 u hw => ?_)
  refine a_perm (ws' := WL (cxG X) A x1 B (u1 (u1 (u1 (u1 y.1 0 u.1) 6 u.2.1) 9 u.2.2.1) 10 u.2.2.2.1, u1 (u1 (u1 (u1 (u1 (u1 (u1 (u1 (u1 y.2.1 3 u.2.2.2.2.1) 10 u.2.2.2.2.2.1) 8 u.2.2.2.2.2.2.1) 9 u.2.2.2.2.2.2.2.1) 6 u.2.2.2.2.2.2.2.2.1) 7 u.2.2.2.2.2.2.2.2.2.1) 11 u.2.2.2.2.2.2.2.2.2.2.1) 12 u.2.2.2.2.2.2.2.2.2.2.2.1) 13 u.2.2.2.2.2.2.2.2.2.2.2.2, y.2.2) M o f1) (pl' := pl) (pw2 _ _ _ _).symm ?_
  generalize ((u1 (u1 (u1 (u1 y.1 0 u.1) 6 u.2.1) 9 u.2.2.1) 10 u.2.2.2.1, u1 (u1 (u1 (u1 (u1 (u1 (u1 (u1 (u1 y.2.1 3 u.2.2.2.2.1) 10 u.2.2.2.2.2.1) 8 u.2.2.2.2.2.2.1) 9 u.2.2.2.2.2.2.2.1) 6 u.2.2.2.2.2.2.2.2.1) 7 u.2.2.2.2.2.2.2.2.2.1) 11 u.2.2.2.2.2.2.2.2.2.2.1) 12 u.2.2.2.2.2.2.2.2.2.2.2.1) 13 u.2.2.2.2.2.2.2.2.2.2.2.2, y.2.2) : YS) = y1 at hw ⊢
  refine a_istore (pc := 1698) (i := 6) C dL_law_1698 (Nat.le_of_ble_eq_true rfl) rfl ?_
  show AW X 8 (k + 1) (n + 6) (WL (cxG X) A x1 B y1 M o f1) pl 1700 [some (.ref b), some (.ref (A 0)), some (.ref (B 0)), some (.ref o), some (.int i), some (.int r), some (.int r2), none] []
  refine a_aload_n (pc := 1700) (i := 2) C dL_law_1700 rfl rfl ?_
  refine a_perm (pw2 _ _ _ _) ?_
  refine a_xVi (pc := 1701) (As := []) (st := []) C (k_X12_thrown (post := fun t y => ((ov = none ∧ t = 1) ∨ (ov = some r2 ∧ t = 0)) ∧ post x1 y) B hw) dL_law_1701 mth_X12_thrown tml_L_98 (fun _ _ _ => trivial) Fz0_ok (rmLv (Nat.le_of_ble_eq_true rfl) (Nat.le_of_ble_eq_true rfl) hk hn) (Nat.le_of_ble_eq_true rfl) rfl rfl (ci := 12) rfl ⟨0, _, rfl⟩ (m := 30) (fun _ => rfl) (fun t u hw => ?_)
  refine a_perm (ws' := WL (cxG X) A x1 B y1 M o f1) (pl' := pl) (pw2 _ _ _ _).symm ?_
  refine a_iload (pc := 1704) (i := 5) C dL_law_1704 rfl ?_
  obtain ⟨ht, hp⟩ := hw
  have key : t = r ∧ (r = 0 → f1 0 = Int32.toInt64 r2) := by
    rcases hr with ⟨h1, v, h2, h3⟩ | ⟨h1, h2⟩
    · rcases ht with ⟨h4, -⟩ | ⟨h4, h5⟩
      · rw [h2] at h4; cases h4
      · rw [h2] at h4; cases h4; exact ⟨h5.trans h1.symm, fun _ => by rw [h3]; rfl⟩
    · rcases ht with ⟨-, h5⟩ | ⟨h4, -⟩
      · exact ⟨h5.trans h1.symm, fun z => by rw [h1] at z; exact absurd z (by decide)⟩
      · rw [h2] at h4; cases h4
  refine a_icmp_eq (pc := 1706) (tgt := 1711) C dL_law_1706 (by decide) (fun _ => ?_) (fun c => absurd key.1 c)
  have fin : AW X 8 (k + 1) (n + 6) (WL (cxG X) A x1 B y1 M o f1) pl 1728 [some (.ref b), some (.ref (A 0)), some (.ref (B 0)), some (.ref o), some (.int i), some (.int r), some (.int r2), none] [] := by
    refine a_goto (pc := 1728) (tgt := 3322) C dL_law_1728 (by decide) ?_
    refine a_msk [true, true, true, true, true, false, false, false] rfl ?_
    exact a_widen (by omega) (by omega) (kk _ _ _ hp)
  refine a_iload (pc := 1711) (i := 5) C dL_law_1711 rfl ?_
  refine a_if_ne (pc := 1713) (tgt := 1728) C dL_law_1713 (by decide) (fun _ => fin) (fun c => ?_)
  refine a_aload_n (pc := 1716) (i := 3) C dL_law_1716 rfl rfl ?_
  refine a_iconst (pc := 1717) (v := 0) C dL_law_1717 rfl ?_
  refine a_perm (pw4 _ _ _ _ _) ?_
  refine a_lald (pc := 1718) C dL_law_1718 0 rfl vp_in01 ?_
  refine a_perm (ws' := WL (cxG X) A x1 B y1 M o f1) (pl' := pl) (pw4 _ _ _ _ _).symm ?_
  refine a_iload (pc := 1719) (i := 6) C dL_law_1719 rfl ?_
  refine a_i2l (pc := 1721) C dL_law_1721 ?_
  refine a_lcmp (pc := 1722) C dL_law_1722 ?_
  refine a_if_eq (pc := 1723) (tgt := 1728) C dL_law_1723 (by decide) (fun _ => fin) (fun z => absurd ?_ z)
  show lg_cmp (f1 0) (Int32.toInt64 r2) = 0
  rw [key.2 c]
  exact cmp_self _
set_option maxRecDepth 20000 in
theorem lc_spots {X : Ctx} {ka : KA} {b L : Nat} {xs : Nat → Int32} (C : Cok X cL_law 8 RL room_1 (FzL ka b L xs)) {k n : Nat} (hk : k + 1001 ≤ 601024) (hn : n + 6006 ≤ 7293033) {i : Int32} (hi : 0 ≤ i.toInt ∧ i.toInt + 10 ≤ L ∧ L ≤ 5120) {A B : Nat → Nat} {x : XS} {y : YS} {M : MK} {o : Nat} {f : Nat → Int64} {pl : Pool} (hl0 : (cxL X).stackTraces = false) {post : XS → YS → Prop} (hw : s1_spots pl x y (xs (Int32.toNatClampNeg (i + 1))) (xs (Int32.toNatClampNeg (i + 2))) (xs (Int32.toNatClampNeg (i + 3))) (xs (Int32.toNatClampNeg (i + 4))) (xs (Int32.toNatClampNeg (i + 5))) (xs (Int32.toNatClampNeg (i + 6))) (xs (Int32.toNatClampNeg (i + 7))) (xs (Int32.toNatClampNeg (i + 8))) post) (kk : ∀ x y f, post x y → AW X 8 (k + 1001) (n + 6006) (WL (cxG X) A x B y M o f) pl 3322 [some (.ref b), some (.ref (A 0)), some (.ref (B 0)), some (.ref o), some (.int i), none, none, none] []) : AW X 8 k n (WL (cxG X) A x B y M o f) pl 1756 [some (.ref b), some (.ref (A 0)), some (.ref (B 0)), some (.ref o), some (.int i), none, none, none] [] := by
  refine a_aload_n (pc := 1756) (i := 1) C dL_law_1756 rfl rfl ?_
  refine a_aload_n (pc := 1757) (i := 0) C dL_law_1757 rfl rfl ?_
  refine a_iload (pc := 1758) (i := 4) C dL_law_1758 rfl ?_
  refine a_iconst (pc := 1760) (v := 1) C dL_law_1760 rfl ?_
  refine a_iadd (pc := 1761) C dL_law_1761 ?_
  refine a_sld (pc := 1762) C dL_law_1762 (in_arg hi (by decide)) ?_
  refine a_aload_n (pc := 1763) (i := 0) C dL_law_1763 rfl rfl ?_
  refine a_iload (pc := 1764) (i := 4) C dL_law_1764 rfl ?_
  refine a_iconst (pc := 1766) (v := 2) C dL_law_1766 rfl ?_
  refine a_iadd (pc := 1767) C dL_law_1767 ?_
  refine a_sld (pc := 1768) C dL_law_1768 (in_arg hi (by decide)) ?_
  refine a_aload_n (pc := 1769) (i := 0) C dL_law_1769 rfl rfl ?_
  refine a_iload (pc := 1770) (i := 4) C dL_law_1770 rfl ?_
  refine a_iconst (pc := 1772) (v := 3) C dL_law_1772 rfl ?_
  refine a_iadd (pc := 1773) C dL_law_1773 ?_
  refine a_sld (pc := 1774) C dL_law_1774 (in_arg hi (by decide)) ?_
  refine a_aload_n (pc := 1775) (i := 0) C dL_law_1775 rfl rfl ?_
  refine a_iload (pc := 1776) (i := 4) C dL_law_1776 rfl ?_
  refine a_iconst (pc := 1778) (v := 4) C dL_law_1778 rfl ?_
  refine a_iadd (pc := 1779) C dL_law_1779 ?_
  refine a_sld (pc := 1780) C dL_law_1780 (in_arg hi (by decide)) ?_
  refine a_aload_n (pc := 1781) (i := 0) C dL_law_1781 rfl rfl ?_
  refine a_iload (pc := 1782) (i := 4) C dL_law_1782 rfl ?_
  refine a_iconst (pc := 1784) (v := 5) C dL_law_1784 rfl ?_
  refine a_iadd (pc := 1785) C dL_law_1785 ?_
  refine a_sld (pc := 1786) C dL_law_1786 (in_arg hi (by decide)) ?_
  refine a_aload_n (pc := 1787) (i := 0) C dL_law_1787 rfl rfl ?_
  refine a_iload (pc := 1788) (i := 4) C dL_law_1788 rfl ?_
  refine a_bipush (pc := 1790) (v := 6) C dL_law_1790 rfl ?_
  refine a_iadd (pc := 1792) C dL_law_1792 ?_
  refine a_sld (pc := 1793) C dL_law_1793 (in_arg hi (by decide)) ?_
  refine a_aload_n (pc := 1794) (i := 0) C dL_law_1794 rfl rfl ?_
  refine a_iload (pc := 1795) (i := 4) C dL_law_1795 rfl ?_
  refine a_bipush (pc := 1797) (v := 7) C dL_law_1797 rfl ?_
  refine a_iadd (pc := 1799) C dL_law_1799 ?_
  refine a_sld (pc := 1800) C dL_law_1800 (in_arg hi (by decide)) ?_
  refine a_aload_n (pc := 1801) (i := 0) C dL_law_1801 rfl rfl ?_
  refine a_iload (pc := 1802) (i := 4) C dL_law_1802 rfl ?_
  refine a_bipush (pc := 1804) (v := 8) C dL_law_1804 rfl ?_
  refine a_iadd (pc := 1806) C dL_law_1806 ?_
  refine a_sld (pc := 1807) C dL_law_1807 (in_arg hi (by decide)) ?_
  refine a_aload_n (pc := 1808) (i := 3) C dL_law_1808 rfl rfl ?_
  refine a_perm (pw3 _ _ _ _ _) ?_
  refine a_xSW (pc := 1809) (As := [.ref (A 0), .int (xs (Int32.toNatClampNeg (i + 1))), .int (xs (Int32.toNatClampNeg (i + 2))), .int (xs (Int32.toNatClampNeg (i + 3))), .int (xs (Int32.toNatClampNeg (i + 4))), .int (xs (Int32.toNatClampNeg (i + 5))), .int (xs (Int32.toNatClampNeg (i + 6))), .int (xs (Int32.toNatClampNeg (i + 7))), .int (xs (Int32.toNatClampNeg (i + 8))), .ref o]) (st := []) C (c_L_spots (k_X11_spots (ka := ka) hl0 (post := fun ov x => s2_spots ov x y (xs (Int32.toNatClampNeg (i + 1))) (xs (Int32.toNatClampNeg (i + 2))) (xs (Int32.toNatClampNeg (i + 3))) (xs (Int32.toNatClampNeg (i + 4))) (xs (Int32.toNatClampNeg (i + 5))) (xs (Int32.toNatClampNeg (i + 6))) (xs (Int32.toNatClampNeg (i + 7))) (xs (Int32.toNatClampNeg (i + 8))) post) A (fun pl' hp => hw pl' (fun z hz => hp z (List.mem_cons_of_mem _ (List.mem_append_right _ (List.mem_append_right _ hz)))))) rfl) dL_law_1809 mth_L_spots tml_L_147 (fun _ _ h => h.1.1) (FzD_ok ka) (rmXw (Nat.le_of_ble_eq_true rfl) hk hn) (Nat.le_of_ble_eq_true rfl) rfl rfl (fun r u hw => ?_)
  obtain ⟨ov, hw, hr⟩ := hpO_ov hw
  obtain ⟨u, f1⟩ := u
  dsimp only at hw hr
  refine a_perm (ws' := WL (cxG X) A (u1 (u1 (u1 (u1 (u1 (u1 (u1 (u1 (u1 (u1 (u1 (u1 (u1 (u1 x.1 30 u.2.1) 31 u.2.2.1) 32 u.2.2.2.1) 33 u.2.2.2.2.1) 34 u.2.2.2.2.2.1) 35 u.2.2.2.2.2.2.1) 36 u.2.2.2.2.2.2.2.1) 37 u.2.2.2.2.2.2.2.2.1) 38 u.2.2.2.2.2.2.2.2.2.1) 39 u.2.2.2.2.2.2.2.2.2.2.1) 40 u.2.2.2.2.2.2.2.2.2.2.2.1) 43 u.2.2.2.2.2.2.2.2.2.2.2.2.2.2.2.1) 44 u.2.2.2.2.2.2.2.2.2.2.2.2.2.2.2.2.1) 45 u.2.2.2.2.2.2.2.2.2.2.2.2.2.2.2.2.2.1, u1 (u1 x.2.1 21 u.2.2.2.2.2.2.2.2.2.2.2.2.2.2.1) 22 u.2.2.2.2.2.2.2.2.2.2.2.2.2.2.2.2.2.2.1, u1 (u1 (u1 (u1 x.2.2.1 10 u.2.2.2.2.2.2.2.2.2.2.2.2.1) 11 u.2.2.2.2.2.2.2.2.2.2.2.2.2.1) 13 u.2.2.2.2.2.2.2.2.2.2.2.2.2.2.2.2.2.2.2.1) 12 u.2.2.2.2.2.2.2.2.2.2.2.2.2.2.2.2.2.2.2.2, x.2.2.2.1, u.1, x.2.2.2.2.2.1, x.2.2.2.2.2.2) B y M o f1) (pl' := pl) (pw3 _ _ _ _ _).symm ?_
  generalize ((u1 (u1 (u1 (u1 (u1 (u1 (u1 (u1 (u1 (u1 (u1 (u1 (u1 (u1 x.1 30 u.2.1) 31 u.2.2.1) 32 u.2.2.2.1) 33 u.2.2.2.2.1) 34 u.2.2.2.2.2.1) 35 u.2.2.2.2.2.2.1) 36 u.2.2.2.2.2.2.2.1) 37 u.2.2.2.2.2.2.2.2.1) 38 u.2.2.2.2.2.2.2.2.2.1) 39 u.2.2.2.2.2.2.2.2.2.2.1) 40 u.2.2.2.2.2.2.2.2.2.2.2.1) 43 u.2.2.2.2.2.2.2.2.2.2.2.2.2.2.2.1) 44 u.2.2.2.2.2.2.2.2.2.2.2.2.2.2.2.2.1) 45 u.2.2.2.2.2.2.2.2.2.2.2.2.2.2.2.2.2.1, u1 (u1 x.2.1 21 u.2.2.2.2.2.2.2.2.2.2.2.2.2.2.1) 22 u.2.2.2.2.2.2.2.2.2.2.2.2.2.2.2.2.2.2.1, u1 (u1 (u1 (u1 x.2.2.1 10 u.2.2.2.2.2.2.2.2.2.2.2.2.1) 11 u.2.2.2.2.2.2.2.2.2.2.2.2.2.1) 13 u.2.2.2.2.2.2.2.2.2.2.2.2.2.2.2.2.2.2.2.1) 12 u.2.2.2.2.2.2.2.2.2.2.2.2.2.2.2.2.2.2.2.2, x.2.2.2.1, u.1, x.2.2.2.2.2.1, x.2.2.2.2.2.2) : XS) = x1 at hw ⊢
  refine a_istore (pc := 1812) (i := 5) C dL_law_1812 (Nat.le_of_ble_eq_true rfl) rfl ?_
  show AW X 8 (k + 1) (n + 6) (WL (cxG X) A x1 B y M o f1) pl 1814 [some (.ref b), some (.ref (A 0)), some (.ref (B 0)), some (.ref o), some (.int i), some (.int r), none, none] []
  refine a_aload_n (pc := 1814) (i := 2) C dL_law_1814 rfl rfl ?_
  refine a_aload_n (pc := 1815) (i := 0) C dL_law_1815 rfl rfl ?_
  refine a_iload (pc := 1816) (i := 4) C dL_law_1816 rfl ?_
  refine a_iconst (pc := 1818) (v := 1) C dL_law_1818 rfl ?_
  refine a_iadd (pc := 1819) C dL_law_1819 ?_
  refine a_sld (pc := 1820) C dL_law_1820 (in_arg hi (by decide)) ?_
  refine a_aload_n (pc := 1821) (i := 0) C dL_law_1821 rfl rfl ?_
  refine a_iload (pc := 1822) (i := 4) C dL_law_1822 rfl ?_
  refine a_iconst (pc := 1824) (v := 2) C dL_law_1824 rfl ?_
  refine a_iadd (pc := 1825) C dL_law_1825 ?_
  refine a_sld (pc := 1826) C dL_law_1826 (in_arg hi (by decide)) ?_
  refine a_aload_n (pc := 1827) (i := 0) C dL_law_1827 rfl rfl ?_
  refine a_iload (pc := 1828) (i := 4) C dL_law_1828 rfl ?_
  refine a_iconst (pc := 1830) (v := 3) C dL_law_1830 rfl ?_
  refine a_iadd (pc := 1831) C dL_law_1831 ?_
  refine a_sld (pc := 1832) C dL_law_1832 (in_arg hi (by decide)) ?_
  refine a_aload_n (pc := 1833) (i := 0) C dL_law_1833 rfl rfl ?_
  refine a_iload (pc := 1834) (i := 4) C dL_law_1834 rfl ?_
  refine a_iconst (pc := 1836) (v := 4) C dL_law_1836 rfl ?_
  refine a_iadd (pc := 1837) C dL_law_1837 ?_
  refine a_sld (pc := 1838) C dL_law_1838 (in_arg hi (by decide)) ?_
  refine a_aload_n (pc := 1839) (i := 0) C dL_law_1839 rfl rfl ?_
  refine a_iload (pc := 1840) (i := 4) C dL_law_1840 rfl ?_
  refine a_iconst (pc := 1842) (v := 5) C dL_law_1842 rfl ?_
  refine a_iadd (pc := 1843) C dL_law_1843 ?_
  refine a_sld (pc := 1844) C dL_law_1844 (in_arg hi (by decide)) ?_
  refine a_aload_n (pc := 1845) (i := 0) C dL_law_1845 rfl rfl ?_
  refine a_iload (pc := 1846) (i := 4) C dL_law_1846 rfl ?_
  refine a_bipush (pc := 1848) (v := 6) C dL_law_1848 rfl ?_
  refine a_iadd (pc := 1850) C dL_law_1850 ?_
  refine a_sld (pc := 1851) C dL_law_1851 (in_arg hi (by decide)) ?_
  refine a_aload_n (pc := 1852) (i := 0) C dL_law_1852 rfl rfl ?_
  refine a_iload (pc := 1853) (i := 4) C dL_law_1853 rfl ?_
  refine a_bipush (pc := 1855) (v := 7) C dL_law_1855 rfl ?_
  refine a_iadd (pc := 1857) C dL_law_1857 ?_
  refine a_sld (pc := 1858) C dL_law_1858 (in_arg hi (by decide)) ?_
  refine a_aload_n (pc := 1859) (i := 0) C dL_law_1859 rfl rfl ?_
  refine a_iload (pc := 1860) (i := 4) C dL_law_1860 rfl ?_
  refine a_bipush (pc := 1862) (v := 8) C dL_law_1862 rfl ?_
  refine a_iadd (pc := 1864) C dL_law_1864 ?_
  refine a_sld (pc := 1865) C dL_law_1865 (in_arg hi (by decide)) ?_
  refine a_perm (pw2 _ _ _ _) ?_
  refine a_xVi (pc := 1866) (As := [.int (xs (Int32.toNatClampNeg (i + 1))), .int (xs (Int32.toNatClampNeg (i + 2))), .int (xs (Int32.toNatClampNeg (i + 3))), .int (xs (Int32.toNatClampNeg (i + 4))), .int (xs (Int32.toNatClampNeg (i + 5))), .int (xs (Int32.toNatClampNeg (i + 6))), .int (xs (Int32.toNatClampNeg (i + 7))), .int (xs (Int32.toNatClampNeg (i + 8)))]) (st := []) C (k_X12_spots (post := fun r2 y => s3I ov r2 x1 y post) B hw) dL_law_1866 mth_X12_spots tml_L_149 (fun _ _ _ => trivial) Fz0_ok (rmLv (Nat.le_of_ble_eq_true rfl) (Nat.le_of_ble_eq_true rfl) hk hn) (Nat.le_of_ble_eq_true rfl) rfl rfl (ci := 12) rfl ⟨0, _, rfl⟩ (m := 30) (fun _ => rfl) (fun r2 u hw => ?_)
  refine a_perm (ws' := WL (cxG X) A x1 B (u1 (u1 y.1 0 u.1) 6 u.2.1, u1 (u1 (u1 (u1 (u1 (u1 (u1 (u1 (u1 y.2.1 3 u.2.2.1) 10 u.2.2.2.1) 8 u.2.2.2.2.1) 9 u.2.2.2.2.2.1) 6 u.2.2.2.2.2.2.1) 7 u.2.2.2.2.2.2.2.1) 11 u.2.2.2.2.2.2.2.2.1) 12 u.2.2.2.2.2.2.2.2.2.1) 13 u.2.2.2.2.2.2.2.2.2.2, y.2.2) M o f1) (pl' := pl) (pw2 _ _ _ _).symm ?_
  generalize ((u1 (u1 y.1 0 u.1) 6 u.2.1, u1 (u1 (u1 (u1 (u1 (u1 (u1 (u1 (u1 y.2.1 3 u.2.2.1) 10 u.2.2.2.1) 8 u.2.2.2.2.1) 9 u.2.2.2.2.2.1) 6 u.2.2.2.2.2.2.1) 7 u.2.2.2.2.2.2.2.1) 11 u.2.2.2.2.2.2.2.2.1) 12 u.2.2.2.2.2.2.2.2.2.1) 13 u.2.2.2.2.2.2.2.2.2.2, y.2.2) : YS) = y1 at hw ⊢
  refine a_istore (pc := 1869) (i := 6) C dL_law_1869 (Nat.le_of_ble_eq_true rfl) rfl ?_
  show AW X 8 (k + 1) (n + 6) (WL (cxG X) A x1 B y1 M o f1) pl 1871 [some (.ref b), some (.ref (A 0)), some (.ref (B 0)), some (.ref o), some (.int i), some (.int r), some (.int r2), none] []
  refine a_aload_n (pc := 1871) (i := 2) C dL_law_1871 rfl rfl ?_
  refine a_perm (pw2 _ _ _ _) ?_
  refine a_xVi (pc := 1872) (As := []) (st := []) C (k_X12_thrown (post := fun t y => ((ov = none ∧ t = 1) ∨ (ov = some r2 ∧ t = 0)) ∧ post x1 y) B hw) dL_law_1872 mth_X12_thrown tml_L_98 (fun _ _ _ => trivial) Fz0_ok (rmLv (Nat.le_of_ble_eq_true rfl) (Nat.le_of_ble_eq_true rfl) hk hn) (Nat.le_of_ble_eq_true rfl) rfl rfl (ci := 12) rfl ⟨0, _, rfl⟩ (m := 30) (fun _ => rfl) (fun t u hw => ?_)
  refine a_perm (ws' := WL (cxG X) A x1 B y1 M o f1) (pl' := pl) (pw2 _ _ _ _).symm ?_
  refine a_iload (pc := 1875) (i := 5) C dL_law_1875 rfl ?_
  obtain ⟨ht, hp⟩ := hw
  have key : t = r ∧ (r = 0 → f1 0 = Int32.toInt64 r2) := by
    rcases hr with ⟨h1, v, h2, h3⟩ | ⟨h1, h2⟩
    · rcases ht with ⟨h4, -⟩ | ⟨h4, h5⟩
      · rw [h2] at h4; cases h4
      · rw [h2] at h4; cases h4; exact ⟨h5.trans h1.symm, fun _ => by rw [h3]; rfl⟩
    · rcases ht with ⟨-, h5⟩ | ⟨h4, -⟩
      · exact ⟨h5.trans h1.symm, fun z => by rw [h1] at z; exact absurd z (by decide)⟩
      · rw [h2] at h4; cases h4
  refine a_icmp_eq (pc := 1877) (tgt := 1882) C dL_law_1877 (by decide) (fun _ => ?_) (fun c => absurd key.1 c)
  have fin : AW X 8 (k + 1) (n + 6) (WL (cxG X) A x1 B y1 M o f1) pl 1899 [some (.ref b), some (.ref (A 0)), some (.ref (B 0)), some (.ref o), some (.int i), some (.int r), some (.int r2), none] [] := by
    refine a_goto (pc := 1899) (tgt := 3322) C dL_law_1899 (by decide) ?_
    refine a_msk [true, true, true, true, true, false, false, false] rfl ?_
    exact a_widen (by omega) (by omega) (kk _ _ _ hp)
  refine a_iload (pc := 1882) (i := 5) C dL_law_1882 rfl ?_
  refine a_if_ne (pc := 1884) (tgt := 1899) C dL_law_1884 (by decide) (fun _ => fin) (fun c => ?_)
  refine a_aload_n (pc := 1887) (i := 3) C dL_law_1887 rfl rfl ?_
  refine a_iconst (pc := 1888) (v := 0) C dL_law_1888 rfl ?_
  refine a_perm (pw4 _ _ _ _ _) ?_
  refine a_lald (pc := 1889) C dL_law_1889 0 rfl vp_in01 ?_
  refine a_perm (ws' := WL (cxG X) A x1 B y1 M o f1) (pl' := pl) (pw4 _ _ _ _ _).symm ?_
  refine a_iload (pc := 1890) (i := 6) C dL_law_1890 rfl ?_
  refine a_i2l (pc := 1892) C dL_law_1892 ?_
  refine a_lcmp (pc := 1893) C dL_law_1893 ?_
  refine a_if_eq (pc := 1894) (tgt := 1899) C dL_law_1894 (by decide) (fun _ => fin) (fun z => absurd ?_ z)
  show lg_cmp (f1 0) (Int32.toInt64 r2) = 0
  rw [key.2 c]
  exact cmp_self _
set_option maxRecDepth 20000 in
theorem lc_judged {X : Ctx} {ka : KA} {b L : Nat} {xs : Nat → Int32} (C : Cok X cL_law 8 RL room_1 (FzL ka b L xs)) {k n : Nat} (hk : k + 1001 ≤ 601024) (hn : n + 6006 ≤ 7293033) {i : Int32} (hi : 0 ≤ i.toInt ∧ i.toInt + 10 ≤ L ∧ L ≤ 5120) {A B : Nat → Nat} {x : XS} {y : YS} {M : MK} {o : Nat} {f : Nat → Int64} {pl : Pool} (hl0 : (cxL X).stackTraces = false) {post : XS → YS → Prop} (hw : s1_judged pl x y (xs (Int32.toNatClampNeg (i + 1))) (xs (Int32.toNatClampNeg (i + 2))) (xs (Int32.toNatClampNeg (i + 3))) (xs (Int32.toNatClampNeg (i + 4))) (xs (Int32.toNatClampNeg (i + 5))) post) (kk : ∀ x y f, post x y → AW X 8 (k + 1001) (n + 6006) (WL (cxG X) A x B y M o f) pl 3322 [some (.ref b), some (.ref (A 0)), some (.ref (B 0)), some (.ref o), some (.int i), none, none, none] []) : AW X 8 k n (WL (cxG X) A x B y M o f) pl 2173 [some (.ref b), some (.ref (A 0)), some (.ref (B 0)), some (.ref o), some (.int i), none, none, none] [] := by
  refine a_aload_n (pc := 2173) (i := 1) C dL_law_2173 rfl rfl ?_
  refine a_aload_n (pc := 2174) (i := 0) C dL_law_2174 rfl rfl ?_
  refine a_iload (pc := 2175) (i := 4) C dL_law_2175 rfl ?_
  refine a_iconst (pc := 2177) (v := 1) C dL_law_2177 rfl ?_
  refine a_iadd (pc := 2178) C dL_law_2178 ?_
  refine a_sld (pc := 2179) C dL_law_2179 (in_arg hi (by decide)) ?_
  refine a_aload_n (pc := 2180) (i := 0) C dL_law_2180 rfl rfl ?_
  refine a_iload (pc := 2181) (i := 4) C dL_law_2181 rfl ?_
  refine a_iconst (pc := 2183) (v := 2) C dL_law_2183 rfl ?_
  refine a_iadd (pc := 2184) C dL_law_2184 ?_
  refine a_sld (pc := 2185) C dL_law_2185 (in_arg hi (by decide)) ?_
  refine a_aload_n (pc := 2186) (i := 0) C dL_law_2186 rfl rfl ?_
  refine a_iload (pc := 2187) (i := 4) C dL_law_2187 rfl ?_
  refine a_iconst (pc := 2189) (v := 3) C dL_law_2189 rfl ?_
  refine a_iadd (pc := 2190) C dL_law_2190 ?_
  refine a_sld (pc := 2191) C dL_law_2191 (in_arg hi (by decide)) ?_
  refine a_aload_n (pc := 2192) (i := 0) C dL_law_2192 rfl rfl ?_
  refine a_iload (pc := 2193) (i := 4) C dL_law_2193 rfl ?_
  refine a_iconst (pc := 2195) (v := 4) C dL_law_2195 rfl ?_
  refine a_iadd (pc := 2196) C dL_law_2196 ?_
  refine a_sld (pc := 2197) C dL_law_2197 (in_arg hi (by decide)) ?_
  refine a_aload_n (pc := 2198) (i := 0) C dL_law_2198 rfl rfl ?_
  refine a_iload (pc := 2199) (i := 4) C dL_law_2199 rfl ?_
  refine a_iconst (pc := 2201) (v := 5) C dL_law_2201 rfl ?_
  refine a_iadd (pc := 2202) C dL_law_2202 ?_
  refine a_sld (pc := 2203) C dL_law_2203 (in_arg hi (by decide)) ?_
  refine a_aload_n (pc := 2204) (i := 3) C dL_law_2204 rfl rfl ?_
  refine a_perm (pw3 _ _ _ _ _) ?_
  refine a_xSW (pc := 2205) (As := [.ref (A 0), .int (xs (Int32.toNatClampNeg (i + 1))), .int (xs (Int32.toNatClampNeg (i + 2))), .int (xs (Int32.toNatClampNeg (i + 3))), .int (xs (Int32.toNatClampNeg (i + 4))), .int (xs (Int32.toNatClampNeg (i + 5))), .ref o]) (st := []) C (c_L_judged (k_X11_judged (ka := ka) hl0 (post := fun ov x => s2_judged ov x y (xs (Int32.toNatClampNeg (i + 1))) (xs (Int32.toNatClampNeg (i + 2))) (xs (Int32.toNatClampNeg (i + 3))) (xs (Int32.toNatClampNeg (i + 4))) (xs (Int32.toNatClampNeg (i + 5))) post) A (fun pl' hp => hw pl' (fun z hz => hp z (List.mem_cons_of_mem _ (List.mem_append_right _ (List.mem_append_right _ hz)))))) rfl) dL_law_2205 mth_L_judged tml_L_180 (fun _ _ h => h.1.1) (FzD_ok ka) (rmXw (Nat.le_of_ble_eq_true rfl) hk hn) (Nat.le_of_ble_eq_true rfl) rfl rfl (fun r u hw => ?_)
  obtain ⟨ov, hw, hr⟩ := hpO_ov hw
  obtain ⟨u, f1⟩ := u
  dsimp only at hw hr
  refine a_perm (ws' := WL (cxG X) A (u1 (u1 (u1 (u1 (u1 (u1 (u1 (u1 (u1 (u1 (u1 x.1 30 u.2.1) 31 u.2.2.1) 32 u.2.2.2.1) 33 u.2.2.2.2.1) 34 u.2.2.2.2.2.1) 35 u.2.2.2.2.2.2.1) 36 u.2.2.2.2.2.2.2.1) 37 u.2.2.2.2.2.2.2.2.1) 40 u.2.2.2.2.2.2.2.2.2.1) 41 u.2.2.2.2.2.2.2.2.2.2.1) 42 u.2.2.2.2.2.2.2.2.2.2.2.2.1, u1 (u1 x.2.1 24 u.2.2.2.2.2.2.2.2.2.2.2.2.2.1) 23 u.2.2.2.2.2.2.2.2.2.2.2.2.2.2, u1 x.2.2.1 10 u.2.2.2.2.2.2.2.2.2.2.2.1, x.2.2.2.1, u.1, x.2.2.2.2.2.1, x.2.2.2.2.2.2) B y M o f1) (pl' := pl) (pw3 _ _ _ _ _).symm ?_
  generalize ((u1 (u1 (u1 (u1 (u1 (u1 (u1 (u1 (u1 (u1 (u1 x.1 30 u.2.1) 31 u.2.2.1) 32 u.2.2.2.1) 33 u.2.2.2.2.1) 34 u.2.2.2.2.2.1) 35 u.2.2.2.2.2.2.1) 36 u.2.2.2.2.2.2.2.1) 37 u.2.2.2.2.2.2.2.2.1) 40 u.2.2.2.2.2.2.2.2.2.1) 41 u.2.2.2.2.2.2.2.2.2.2.1) 42 u.2.2.2.2.2.2.2.2.2.2.2.2.1, u1 (u1 x.2.1 24 u.2.2.2.2.2.2.2.2.2.2.2.2.2.1) 23 u.2.2.2.2.2.2.2.2.2.2.2.2.2.2, u1 x.2.2.1 10 u.2.2.2.2.2.2.2.2.2.2.2.1, x.2.2.2.1, u.1, x.2.2.2.2.2.1, x.2.2.2.2.2.2) : XS) = x1 at hw ⊢
  refine a_istore (pc := 2208) (i := 5) C dL_law_2208 (Nat.le_of_ble_eq_true rfl) rfl ?_
  show AW X 8 (k + 1) (n + 6) (WL (cxG X) A x1 B y M o f1) pl 2210 [some (.ref b), some (.ref (A 0)), some (.ref (B 0)), some (.ref o), some (.int i), some (.int r), none, none] []
  refine a_aload_n (pc := 2210) (i := 2) C dL_law_2210 rfl rfl ?_
  refine a_aload_n (pc := 2211) (i := 0) C dL_law_2211 rfl rfl ?_
  refine a_iload (pc := 2212) (i := 4) C dL_law_2212 rfl ?_
  refine a_iconst (pc := 2214) (v := 1) C dL_law_2214 rfl ?_
  refine a_iadd (pc := 2215) C dL_law_2215 ?_
  refine a_sld (pc := 2216) C dL_law_2216 (in_arg hi (by decide)) ?_
  refine a_aload_n (pc := 2217) (i := 0) C dL_law_2217 rfl rfl ?_
  refine a_iload (pc := 2218) (i := 4) C dL_law_2218 rfl ?_
  refine a_iconst (pc := 2220) (v := 2) C dL_law_2220 rfl ?_
  refine a_iadd (pc := 2221) C dL_law_2221 ?_
  refine a_sld (pc := 2222) C dL_law_2222 (in_arg hi (by decide)) ?_
  refine a_aload_n (pc := 2223) (i := 0) C dL_law_2223 rfl rfl ?_
  refine a_iload (pc := 2224) (i := 4) C dL_law_2224 rfl ?_
  refine a_iconst (pc := 2226) (v := 3) C dL_law_2226 rfl ?_
  refine a_iadd (pc := 2227) C dL_law_2227 ?_
  refine a_sld (pc := 2228) C dL_law_2228 (in_arg hi (by decide)) ?_
  refine a_aload_n (pc := 2229) (i := 0) C dL_law_2229 rfl rfl ?_
  refine a_iload (pc := 2230) (i := 4) C dL_law_2230 rfl ?_
  refine a_iconst (pc := 2232) (v := 4) C dL_law_2232 rfl ?_
  refine a_iadd (pc := 2233) C dL_law_2233 ?_
  refine a_sld (pc := 2234) C dL_law_2234 (in_arg hi (by decide)) ?_
  refine a_aload_n (pc := 2235) (i := 0) C dL_law_2235 rfl rfl ?_
  refine a_iload (pc := 2236) (i := 4) C dL_law_2236 rfl ?_
  refine a_iconst (pc := 2238) (v := 5) C dL_law_2238 rfl ?_
  refine a_iadd (pc := 2239) C dL_law_2239 ?_
  refine a_sld (pc := 2240) C dL_law_2240 (in_arg hi (by decide)) ?_
  refine a_perm (pw2 _ _ _ _) ?_
  refine a_xVi (pc := 2241) (As := [.int (xs (Int32.toNatClampNeg (i + 1))), .int (xs (Int32.toNatClampNeg (i + 2))), .int (xs (Int32.toNatClampNeg (i + 3))), .int (xs (Int32.toNatClampNeg (i + 4))), .int (xs (Int32.toNatClampNeg (i + 5)))]) (st := []) C (k_X12_judged (post := fun r2 y => s3I ov r2 x1 y post) B hw) dL_law_2241 mth_X12_judged tml_L_183 (fun _ _ _ => trivial) Fz0_ok (rmLv (Nat.le_of_ble_eq_true rfl) (Nat.le_of_ble_eq_true rfl) hk hn) (Nat.le_of_ble_eq_true rfl) rfl rfl (ci := 12) rfl ⟨0, _, rfl⟩ (m := 30) (fun _ => rfl) (fun r2 u hw => ?_)
  refine a_perm (ws' := WL (cxG X) A x1 B (u1 (u1 y.1 0 u.1) 6 u.2.1, u1 (u1 (u1 (u1 (u1 y.2.1 10 u.2.2.1) 8 u.2.2.2.1) 9 u.2.2.2.2.1) 6 u.2.2.2.2.2.1) 7 u.2.2.2.2.2.2, y.2.2) M o f1) (pl' := pl) (pw2 _ _ _ _).symm ?_
  generalize ((u1 (u1 y.1 0 u.1) 6 u.2.1, u1 (u1 (u1 (u1 (u1 y.2.1 10 u.2.2.1) 8 u.2.2.2.1) 9 u.2.2.2.2.1) 6 u.2.2.2.2.2.1) 7 u.2.2.2.2.2.2, y.2.2) : YS) = y1 at hw ⊢
  refine a_istore (pc := 2244) (i := 6) C dL_law_2244 (Nat.le_of_ble_eq_true rfl) rfl ?_
  show AW X 8 (k + 1) (n + 6) (WL (cxG X) A x1 B y1 M o f1) pl 2246 [some (.ref b), some (.ref (A 0)), some (.ref (B 0)), some (.ref o), some (.int i), some (.int r), some (.int r2), none] []
  refine a_aload_n (pc := 2246) (i := 2) C dL_law_2246 rfl rfl ?_
  refine a_perm (pw2 _ _ _ _) ?_
  refine a_xVi (pc := 2247) (As := []) (st := []) C (k_X12_thrown (post := fun t y => ((ov = none ∧ t = 1) ∨ (ov = some r2 ∧ t = 0)) ∧ post x1 y) B hw) dL_law_2247 mth_X12_thrown tml_L_98 (fun _ _ _ => trivial) Fz0_ok (rmLv (Nat.le_of_ble_eq_true rfl) (Nat.le_of_ble_eq_true rfl) hk hn) (Nat.le_of_ble_eq_true rfl) rfl rfl (ci := 12) rfl ⟨0, _, rfl⟩ (m := 30) (fun _ => rfl) (fun t u hw => ?_)
  refine a_perm (ws' := WL (cxG X) A x1 B y1 M o f1) (pl' := pl) (pw2 _ _ _ _).symm ?_
  refine a_iload (pc := 2250) (i := 5) C dL_law_2250 rfl ?_
  obtain ⟨ht, hp⟩ := hw
  have key : t = r ∧ (r = 0 → f1 0 = Int32.toInt64 r2) := by
    rcases hr with ⟨h1, v, h2, h3⟩ | ⟨h1, h2⟩
    · rcases ht with ⟨h4, -⟩ | ⟨h4, h5⟩
      · rw [h2] at h4; cases h4
      · rw [h2] at h4; cases h4; exact ⟨h5.trans h1.symm, fun _ => by rw [h3]; rfl⟩
    · rcases ht with ⟨-, h5⟩ | ⟨h4, -⟩
      · exact ⟨h5.trans h1.symm, fun z => by rw [h1] at z; exact absurd z (by decide)⟩
      · rw [h2] at h4; cases h4
  refine a_icmp_eq (pc := 2252) (tgt := 2257) C dL_law_2252 (by decide) (fun _ => ?_) (fun c => absurd key.1 c)
  have fin : AW X 8 (k + 1) (n + 6) (WL (cxG X) A x1 B y1 M o f1) pl 2274 [some (.ref b), some (.ref (A 0)), some (.ref (B 0)), some (.ref o), some (.int i), some (.int r), some (.int r2), none] [] := by
    refine a_goto (pc := 2274) (tgt := 3322) C dL_law_2274 (by decide) ?_
    refine a_msk [true, true, true, true, true, false, false, false] rfl ?_
    exact a_widen (by omega) (by omega) (kk _ _ _ hp)
  refine a_iload (pc := 2257) (i := 5) C dL_law_2257 rfl ?_
  refine a_if_ne (pc := 2259) (tgt := 2274) C dL_law_2259 (by decide) (fun _ => fin) (fun c => ?_)
  refine a_aload_n (pc := 2262) (i := 3) C dL_law_2262 rfl rfl ?_
  refine a_iconst (pc := 2263) (v := 0) C dL_law_2263 rfl ?_
  refine a_perm (pw4 _ _ _ _ _) ?_
  refine a_lald (pc := 2264) C dL_law_2264 0 rfl vp_in01 ?_
  refine a_perm (ws' := WL (cxG X) A x1 B y1 M o f1) (pl' := pl) (pw4 _ _ _ _ _).symm ?_
  refine a_iload (pc := 2265) (i := 6) C dL_law_2265 rfl ?_
  refine a_i2l (pc := 2267) C dL_law_2267 ?_
  refine a_lcmp (pc := 2268) C dL_law_2268 ?_
  refine a_if_eq (pc := 2269) (tgt := 2274) C dL_law_2269 (by decide) (fun _ => fin) (fun z => absurd ?_ z)
  show lg_cmp (f1 0) (Int32.toInt64 r2) = 0
  rw [key.2 c]
  exact cmp_self _
set_option maxRecDepth 20000 in
theorem lc_rests {X : Ctx} {ka : KA} {b L : Nat} {xs : Nat → Int32} (C : Cok X cL_law 8 RL room_1 (FzL ka b L xs)) {k n : Nat} (hk : k + 1001 ≤ 601024) (hn : n + 6006 ≤ 7293033) {i : Int32} (hi : 0 ≤ i.toInt ∧ i.toInt + 10 ≤ L ∧ L ≤ 5120) {A B : Nat → Nat} {x : XS} {y : YS} {M : MK} {o : Nat} {f : Nat → Int64} {pl : Pool} (hl0 : (cxL X).stackTraces = false) {post : XS → YS → Prop} (hw : s1_rests pl x y (xs (Int32.toNatClampNeg (i + 1))) (xs (Int32.toNatClampNeg (i + 2))) (xs (Int32.toNatClampNeg (i + 3))) (xs (Int32.toNatClampNeg (i + 4))) (xs (Int32.toNatClampNeg (i + 5))) (xs (Int32.toNatClampNeg (i + 6))) post) (kk : ∀ x y f, post x y → AW X 8 (k + 1001) (n + 6006) (WL (cxG X) A x B y M o f) pl 3322 [some (.ref b), some (.ref (A 0)), some (.ref (B 0)), some (.ref o), some (.int i), none, none, none] []) : AW X 8 k n (WL (cxG X) A x B y M o f) pl 2277 [some (.ref b), some (.ref (A 0)), some (.ref (B 0)), some (.ref o), some (.int i), none, none, none] [] := by
  refine a_aload_n (pc := 2277) (i := 1) C dL_law_2277 rfl rfl ?_
  refine a_aload_n (pc := 2278) (i := 0) C dL_law_2278 rfl rfl ?_
  refine a_iload (pc := 2279) (i := 4) C dL_law_2279 rfl ?_
  refine a_iconst (pc := 2281) (v := 1) C dL_law_2281 rfl ?_
  refine a_iadd (pc := 2282) C dL_law_2282 ?_
  refine a_sld (pc := 2283) C dL_law_2283 (in_arg hi (by decide)) ?_
  refine a_aload_n (pc := 2284) (i := 0) C dL_law_2284 rfl rfl ?_
  refine a_iload (pc := 2285) (i := 4) C dL_law_2285 rfl ?_
  refine a_iconst (pc := 2287) (v := 2) C dL_law_2287 rfl ?_
  refine a_iadd (pc := 2288) C dL_law_2288 ?_
  refine a_sld (pc := 2289) C dL_law_2289 (in_arg hi (by decide)) ?_
  refine a_aload_n (pc := 2290) (i := 0) C dL_law_2290 rfl rfl ?_
  refine a_iload (pc := 2291) (i := 4) C dL_law_2291 rfl ?_
  refine a_iconst (pc := 2293) (v := 3) C dL_law_2293 rfl ?_
  refine a_iadd (pc := 2294) C dL_law_2294 ?_
  refine a_sld (pc := 2295) C dL_law_2295 (in_arg hi (by decide)) ?_
  refine a_aload_n (pc := 2296) (i := 0) C dL_law_2296 rfl rfl ?_
  refine a_iload (pc := 2297) (i := 4) C dL_law_2297 rfl ?_
  refine a_iconst (pc := 2299) (v := 4) C dL_law_2299 rfl ?_
  refine a_iadd (pc := 2300) C dL_law_2300 ?_
  refine a_sld (pc := 2301) C dL_law_2301 (in_arg hi (by decide)) ?_
  refine a_aload_n (pc := 2302) (i := 0) C dL_law_2302 rfl rfl ?_
  refine a_iload (pc := 2303) (i := 4) C dL_law_2303 rfl ?_
  refine a_iconst (pc := 2305) (v := 5) C dL_law_2305 rfl ?_
  refine a_iadd (pc := 2306) C dL_law_2306 ?_
  refine a_sld (pc := 2307) C dL_law_2307 (in_arg hi (by decide)) ?_
  refine a_aload_n (pc := 2308) (i := 0) C dL_law_2308 rfl rfl ?_
  refine a_iload (pc := 2309) (i := 4) C dL_law_2309 rfl ?_
  refine a_bipush (pc := 2311) (v := 6) C dL_law_2311 rfl ?_
  refine a_iadd (pc := 2313) C dL_law_2313 ?_
  refine a_sld (pc := 2314) C dL_law_2314 (in_arg hi (by decide)) ?_
  refine a_aload_n (pc := 2315) (i := 3) C dL_law_2315 rfl rfl ?_
  refine a_perm (pw3 _ _ _ _ _) ?_
  refine a_xSW (pc := 2316) (As := [.ref (A 0), .int (xs (Int32.toNatClampNeg (i + 1))), .int (xs (Int32.toNatClampNeg (i + 2))), .int (xs (Int32.toNatClampNeg (i + 3))), .int (xs (Int32.toNatClampNeg (i + 4))), .int (xs (Int32.toNatClampNeg (i + 5))), .int (xs (Int32.toNatClampNeg (i + 6))), .ref o]) (st := []) C (c_L_rests (k_X11_rests (ka := ka) hl0 (post := fun ov x => s2_rests ov x y (xs (Int32.toNatClampNeg (i + 1))) (xs (Int32.toNatClampNeg (i + 2))) (xs (Int32.toNatClampNeg (i + 3))) (xs (Int32.toNatClampNeg (i + 4))) (xs (Int32.toNatClampNeg (i + 5))) (xs (Int32.toNatClampNeg (i + 6))) post) A (fun pl' hp => hw pl' (fun z hz => hp z (List.mem_cons_of_mem _ (List.mem_append_right _ (List.mem_append_right _ hz)))))) rfl) dL_law_2316 mth_L_rests tml_L_184 (fun _ _ h => h.1.1) (FzD_ok ka) (rmXw (Nat.le_of_ble_eq_true rfl) hk hn) (Nat.le_of_ble_eq_true rfl) rfl rfl (fun r u hw => ?_)
  obtain ⟨ov, hw, hr⟩ := hpO_ov hw
  obtain ⟨u, f1⟩ := u
  dsimp only at hw hr
  refine a_perm (ws' := WL (cxG X) A (u1 (u1 (u1 (u1 (u1 (u1 (u1 (u1 (u1 (u1 (u1 (u1 (u1 x.1 30 u.2.1) 31 u.2.2.1) 32 u.2.2.2.1) 33 u.2.2.2.2.1) 34 u.2.2.2.2.2.1) 35 u.2.2.2.2.2.2.1) 36 u.2.2.2.2.2.2.2.1) 37 u.2.2.2.2.2.2.2.2.1) 38 u.2.2.2.2.2.2.2.2.2.1) 39 u.2.2.2.2.2.2.2.2.2.2.1) 40 u.2.2.2.2.2.2.2.2.2.2.2.1) 41 u.2.2.2.2.2.2.2.2.2.2.2.2.1) 42 u.2.2.2.2.2.2.2.2.2.2.2.2.2.2.2.2.2.1, u1 (u1 (u1 (u1 (u1 (u1 x.2.1 21 u.2.2.2.2.2.2.2.2.2.2.2.2.2.2.2.1) 22 u.2.2.2.2.2.2.2.2.2.2.2.2.2.2.2.2.1) 24 u.2.2.2.2.2.2.2.2.2.2.2.2.2.2.2.2.2.2.1) 23 u.2.2.2.2.2.2.2.2.2.2.2.2.2.2.2.2.2.2.2.1) 20 u.2.2.2.2.2.2.2.2.2.2.2.2.2.2.2.2.2.2.2.2.1) 19 u.2.2.2.2.2.2.2.2.2.2.2.2.2.2.2.2.2.2.2.2.2, u1 (u1 x.2.2.1 10 u.2.2.2.2.2.2.2.2.2.2.2.2.2.1) 11 u.2.2.2.2.2.2.2.2.2.2.2.2.2.2.1, x.2.2.2.1, u.1, x.2.2.2.2.2.1, x.2.2.2.2.2.2) B y M o f1) (pl' := pl) (pw3 _ _ _ _ _).symm ?_
  generalize ((u1 (u1 (u1 (u1 (u1 (u1 (u1 (u1 (u1 (u1 (u1 (u1 (u1 x.1 30 u.2.1) 31 u.2.2.1) 32 u.2.2.2.1) 33 u.2.2.2.2.1) 34 u.2.2.2.2.2.1) 35 u.2.2.2.2.2.2.1) 36 u.2.2.2.2.2.2.2.1) 37 u.2.2.2.2.2.2.2.2.1) 38 u.2.2.2.2.2.2.2.2.2.1) 39 u.2.2.2.2.2.2.2.2.2.2.1) 40 u.2.2.2.2.2.2.2.2.2.2.2.1) 41 u.2.2.2.2.2.2.2.2.2.2.2.2.1) 42 u.2.2.2.2.2.2.2.2.2.2.2.2.2.2.2.2.2.1, u1 (u1 (u1 (u1 (u1 (u1 x.2.1 21 u.2.2.2.2.2.2.2.2.2.2.2.2.2.2.2.1) 22 u.2.2.2.2.2.2.2.2.2.2.2.2.2.2.2.2.1) 24 u.2.2.2.2.2.2.2.2.2.2.2.2.2.2.2.2.2.2.1) 23 u.2.2.2.2.2.2.2.2.2.2.2.2.2.2.2.2.2.2.2.1) 20 u.2.2.2.2.2.2.2.2.2.2.2.2.2.2.2.2.2.2.2.2.1) 19 u.2.2.2.2.2.2.2.2.2.2.2.2.2.2.2.2.2.2.2.2.2, u1 (u1 x.2.2.1 10 u.2.2.2.2.2.2.2.2.2.2.2.2.2.1) 11 u.2.2.2.2.2.2.2.2.2.2.2.2.2.2.1, x.2.2.2.1, u.1, x.2.2.2.2.2.1, x.2.2.2.2.2.2) : XS) = x1 at hw ⊢
  refine a_istore (pc := 2319) (i := 5) C dL_law_2319 (Nat.le_of_ble_eq_true rfl) rfl ?_
  show AW X 8 (k + 1) (n + 6) (WL (cxG X) A x1 B y M o f1) pl 2321 [some (.ref b), some (.ref (A 0)), some (.ref (B 0)), some (.ref o), some (.int i), some (.int r), none, none] []
  refine a_aload_n (pc := 2321) (i := 2) C dL_law_2321 rfl rfl ?_
  refine a_aload_n (pc := 2322) (i := 0) C dL_law_2322 rfl rfl ?_
  refine a_iload (pc := 2323) (i := 4) C dL_law_2323 rfl ?_
  refine a_iconst (pc := 2325) (v := 1) C dL_law_2325 rfl ?_
  refine a_iadd (pc := 2326) C dL_law_2326 ?_
  refine a_sld (pc := 2327) C dL_law_2327 (in_arg hi (by decide)) ?_
  refine a_aload_n (pc := 2328) (i := 0) C dL_law_2328 rfl rfl ?_
  refine a_iload (pc := 2329) (i := 4) C dL_law_2329 rfl ?_
  refine a_iconst (pc := 2331) (v := 2) C dL_law_2331 rfl ?_
  refine a_iadd (pc := 2332) C dL_law_2332 ?_
  refine a_sld (pc := 2333) C dL_law_2333 (in_arg hi (by decide)) ?_
  refine a_aload_n (pc := 2334) (i := 0) C dL_law_2334 rfl rfl ?_
  refine a_iload (pc := 2335) (i := 4) C dL_law_2335 rfl ?_
  refine a_iconst (pc := 2337) (v := 3) C dL_law_2337 rfl ?_
  refine a_iadd (pc := 2338) C dL_law_2338 ?_
  refine a_sld (pc := 2339) C dL_law_2339 (in_arg hi (by decide)) ?_
  refine a_aload_n (pc := 2340) (i := 0) C dL_law_2340 rfl rfl ?_
  refine a_iload (pc := 2341) (i := 4) C dL_law_2341 rfl ?_
  refine a_iconst (pc := 2343) (v := 4) C dL_law_2343 rfl ?_
  refine a_iadd (pc := 2344) C dL_law_2344 ?_
  refine a_sld (pc := 2345) C dL_law_2345 (in_arg hi (by decide)) ?_
  refine a_aload_n (pc := 2346) (i := 0) C dL_law_2346 rfl rfl ?_
  refine a_iload (pc := 2347) (i := 4) C dL_law_2347 rfl ?_
  refine a_iconst (pc := 2349) (v := 5) C dL_law_2349 rfl ?_
  refine a_iadd (pc := 2350) C dL_law_2350 ?_
  refine a_sld (pc := 2351) C dL_law_2351 (in_arg hi (by decide)) ?_
  refine a_aload_n (pc := 2352) (i := 0) C dL_law_2352 rfl rfl ?_
  refine a_iload (pc := 2353) (i := 4) C dL_law_2353 rfl ?_
  refine a_bipush (pc := 2355) (v := 6) C dL_law_2355 rfl ?_
  refine a_iadd (pc := 2357) C dL_law_2357 ?_
  refine a_sld (pc := 2358) C dL_law_2358 (in_arg hi (by decide)) ?_
  refine a_perm (pw2 _ _ _ _) ?_
  refine a_xVi (pc := 2359) (As := [.int (xs (Int32.toNatClampNeg (i + 1))), .int (xs (Int32.toNatClampNeg (i + 2))), .int (xs (Int32.toNatClampNeg (i + 3))), .int (xs (Int32.toNatClampNeg (i + 4))), .int (xs (Int32.toNatClampNeg (i + 5))), .int (xs (Int32.toNatClampNeg (i + 6)))]) (st := []) C (k_X12_rests (post := fun r2 y => s3I ov r2 x1 y post) B hw) dL_law_2359 mth_X12_rests tml_L_186 (fun _ _ _ => trivial) Fz0_ok (rmLv (Nat.le_of_ble_eq_true rfl) (Nat.le_of_ble_eq_true rfl) hk hn) (Nat.le_of_ble_eq_true rfl) rfl rfl (ci := 12) rfl ⟨0, _, rfl⟩ (m := 30) (fun _ => rfl) (fun r2 u hw => ?_)
  refine a_perm (ws' := WL (cxG X) A x1 B (u1 (u1 (u1 y.1 0 u.1) 6 u.2.1) 7 u.2.2.1, u1 (u1 (u1 (u1 (u1 (u1 (u1 (u1 (u1 (u1 (u1 y.2.1 15 u.2.2.2.1) 9 u.2.2.2.2.1) 13 u.2.2.2.2.2.1) 11 u.2.2.2.2.2.2.1) 12 u.2.2.2.2.2.2.2.1) 14 u.2.2.2.2.2.2.2.2.1) 22 u.2.2.2.2.2.2.2.2.2.1) 10 u.2.2.2.2.2.2.2.2.2.2.1) 8 u.2.2.2.2.2.2.2.2.2.2.2.1) 6 u.2.2.2.2.2.2.2.2.2.2.2.2.1) 7 u.2.2.2.2.2.2.2.2.2.2.2.2.2, y.2.2) M o f1) (pl' := pl) (pw2 _ _ _ _).symm ?_
  generalize ((u1 (u1 (u1 y.1 0 u.1) 6 u.2.1) 7 u.2.2.1, u1 (u1 (u1 (u1 (u1 (u1 (u1 (u1 (u1 (u1 (u1 y.2.1 15 u.2.2.2.1) 9 u.2.2.2.2.1) 13 u.2.2.2.2.2.1) 11 u.2.2.2.2.2.2.1) 12 u.2.2.2.2.2.2.2.1) 14 u.2.2.2.2.2.2.2.2.1) 22 u.2.2.2.2.2.2.2.2.2.1) 10 u.2.2.2.2.2.2.2.2.2.2.1) 8 u.2.2.2.2.2.2.2.2.2.2.2.1) 6 u.2.2.2.2.2.2.2.2.2.2.2.2.1) 7 u.2.2.2.2.2.2.2.2.2.2.2.2.2, y.2.2) : YS) = y1 at hw ⊢
  refine a_istore (pc := 2362) (i := 6) C dL_law_2362 (Nat.le_of_ble_eq_true rfl) rfl ?_
  show AW X 8 (k + 1) (n + 6) (WL (cxG X) A x1 B y1 M o f1) pl 2364 [some (.ref b), some (.ref (A 0)), some (.ref (B 0)), some (.ref o), some (.int i), some (.int r), some (.int r2), none] []
  refine a_aload_n (pc := 2364) (i := 2) C dL_law_2364 rfl rfl ?_
  refine a_perm (pw2 _ _ _ _) ?_
  refine a_xVi (pc := 2365) (As := []) (st := []) C (k_X12_thrown (post := fun t y => ((ov = none ∧ t = 1) ∨ (ov = some r2 ∧ t = 0)) ∧ post x1 y) B hw) dL_law_2365 mth_X12_thrown tml_L_98 (fun _ _ _ => trivial) Fz0_ok (rmLv (Nat.le_of_ble_eq_true rfl) (Nat.le_of_ble_eq_true rfl) hk hn) (Nat.le_of_ble_eq_true rfl) rfl rfl (ci := 12) rfl ⟨0, _, rfl⟩ (m := 30) (fun _ => rfl) (fun t u hw => ?_)
  refine a_perm (ws' := WL (cxG X) A x1 B y1 M o f1) (pl' := pl) (pw2 _ _ _ _).symm ?_
  refine a_iload (pc := 2368) (i := 5) C dL_law_2368 rfl ?_
  obtain ⟨ht, hp⟩ := hw
  have key : t = r ∧ (r = 0 → f1 0 = Int32.toInt64 r2) := by
    rcases hr with ⟨h1, v, h2, h3⟩ | ⟨h1, h2⟩
    · rcases ht with ⟨h4, -⟩ | ⟨h4, h5⟩
      · rw [h2] at h4; cases h4
      · rw [h2] at h4; cases h4; exact ⟨h5.trans h1.symm, fun _ => by rw [h3]; rfl⟩
    · rcases ht with ⟨-, h5⟩ | ⟨h4, -⟩
      · exact ⟨h5.trans h1.symm, fun z => by rw [h1] at z; exact absurd z (by decide)⟩
      · rw [h2] at h4; cases h4
  refine a_icmp_eq (pc := 2370) (tgt := 2375) C dL_law_2370 (by decide) (fun _ => ?_) (fun c => absurd key.1 c)
  have fin : AW X 8 (k + 1) (n + 6) (WL (cxG X) A x1 B y1 M o f1) pl 2392 [some (.ref b), some (.ref (A 0)), some (.ref (B 0)), some (.ref o), some (.int i), some (.int r), some (.int r2), none] [] := by
    refine a_goto (pc := 2392) (tgt := 3322) C dL_law_2392 (by decide) ?_
    refine a_msk [true, true, true, true, true, false, false, false] rfl ?_
    exact a_widen (by omega) (by omega) (kk _ _ _ hp)
  refine a_iload (pc := 2375) (i := 5) C dL_law_2375 rfl ?_
  refine a_if_ne (pc := 2377) (tgt := 2392) C dL_law_2377 (by decide) (fun _ => fin) (fun c => ?_)
  refine a_aload_n (pc := 2380) (i := 3) C dL_law_2380 rfl rfl ?_
  refine a_iconst (pc := 2381) (v := 0) C dL_law_2381 rfl ?_
  refine a_perm (pw4 _ _ _ _ _) ?_
  refine a_lald (pc := 2382) C dL_law_2382 0 rfl vp_in01 ?_
  refine a_perm (ws' := WL (cxG X) A x1 B y1 M o f1) (pl' := pl) (pw4 _ _ _ _ _).symm ?_
  refine a_iload (pc := 2383) (i := 6) C dL_law_2383 rfl ?_
  refine a_i2l (pc := 2385) C dL_law_2385 ?_
  refine a_lcmp (pc := 2386) C dL_law_2386 ?_
  refine a_if_eq (pc := 2387) (tgt := 2392) C dL_law_2387 (by decide) (fun _ => fin) (fun z => absurd ?_ z)
  show lg_cmp (f1 0) (Int32.toInt64 r2) = 0
  rw [key.2 c]
  exact cmp_self _
set_option maxRecDepth 20000 in
theorem lc_errand {X : Ctx} {ka : KA} {b L : Nat} {xs : Nat → Int32} (C : Cok X cL_law 8 RL room_1 (FzL ka b L xs)) {k n : Nat} (hk : k + 1001 ≤ 601024) (hn : n + 6006 ≤ 7293033) {i : Int32} (hi : 0 ≤ i.toInt ∧ i.toInt + 10 ≤ L ∧ L ≤ 5120) {A B : Nat → Nat} {x : XS} {y : YS} {M : MK} {o : Nat} {f : Nat → Int64} {pl : Pool} (hl0 : (cxL X).stackTraces = false) {post : XS → YS → Prop} (hw : s1_errand pl x y (xs (Int32.toNatClampNeg (i + 1))) (xs (Int32.toNatClampNeg (i + 2))) (xs (Int32.toNatClampNeg (i + 3))) (xs (Int32.toNatClampNeg (i + 4))) (xs (Int32.toNatClampNeg (i + 5))) (xs (Int32.toNatClampNeg (i + 6))) (xs (Int32.toNatClampNeg (i + 7))) post) (kk : ∀ x y f, post x y → AW X 8 (k + 1001) (n + 6006) (WL (cxG X) A x B y M o f) pl 3322 [some (.ref b), some (.ref (A 0)), some (.ref (B 0)), some (.ref o), some (.int i), none, none, none] []) : AW X 8 k n (WL (cxG X) A x B y M o f) pl 2496 [some (.ref b), some (.ref (A 0)), some (.ref (B 0)), some (.ref o), some (.int i), none, none, none] [] := by
  refine a_aload_n (pc := 2496) (i := 1) C dL_law_2496 rfl rfl ?_
  refine a_aload_n (pc := 2497) (i := 0) C dL_law_2497 rfl rfl ?_
  refine a_iload (pc := 2498) (i := 4) C dL_law_2498 rfl ?_
  refine a_iconst (pc := 2500) (v := 1) C dL_law_2500 rfl ?_
  refine a_iadd (pc := 2501) C dL_law_2501 ?_
  refine a_sld (pc := 2502) C dL_law_2502 (in_arg hi (by decide)) ?_
  refine a_aload_n (pc := 2503) (i := 0) C dL_law_2503 rfl rfl ?_
  refine a_iload (pc := 2504) (i := 4) C dL_law_2504 rfl ?_
  refine a_iconst (pc := 2506) (v := 2) C dL_law_2506 rfl ?_
  refine a_iadd (pc := 2507) C dL_law_2507 ?_
  refine a_sld (pc := 2508) C dL_law_2508 (in_arg hi (by decide)) ?_
  refine a_aload_n (pc := 2509) (i := 0) C dL_law_2509 rfl rfl ?_
  refine a_iload (pc := 2510) (i := 4) C dL_law_2510 rfl ?_
  refine a_iconst (pc := 2512) (v := 3) C dL_law_2512 rfl ?_
  refine a_iadd (pc := 2513) C dL_law_2513 ?_
  refine a_sld (pc := 2514) C dL_law_2514 (in_arg hi (by decide)) ?_
  refine a_aload_n (pc := 2515) (i := 0) C dL_law_2515 rfl rfl ?_
  refine a_iload (pc := 2516) (i := 4) C dL_law_2516 rfl ?_
  refine a_iconst (pc := 2518) (v := 4) C dL_law_2518 rfl ?_
  refine a_iadd (pc := 2519) C dL_law_2519 ?_
  refine a_sld (pc := 2520) C dL_law_2520 (in_arg hi (by decide)) ?_
  refine a_aload_n (pc := 2521) (i := 0) C dL_law_2521 rfl rfl ?_
  refine a_iload (pc := 2522) (i := 4) C dL_law_2522 rfl ?_
  refine a_iconst (pc := 2524) (v := 5) C dL_law_2524 rfl ?_
  refine a_iadd (pc := 2525) C dL_law_2525 ?_
  refine a_sld (pc := 2526) C dL_law_2526 (in_arg hi (by decide)) ?_
  refine a_aload_n (pc := 2527) (i := 0) C dL_law_2527 rfl rfl ?_
  refine a_iload (pc := 2528) (i := 4) C dL_law_2528 rfl ?_
  refine a_bipush (pc := 2530) (v := 6) C dL_law_2530 rfl ?_
  refine a_iadd (pc := 2532) C dL_law_2532 ?_
  refine a_sld (pc := 2533) C dL_law_2533 (in_arg hi (by decide)) ?_
  refine a_aload_n (pc := 2534) (i := 0) C dL_law_2534 rfl rfl ?_
  refine a_iload (pc := 2535) (i := 4) C dL_law_2535 rfl ?_
  refine a_bipush (pc := 2537) (v := 7) C dL_law_2537 rfl ?_
  refine a_iadd (pc := 2539) C dL_law_2539 ?_
  refine a_sld (pc := 2540) C dL_law_2540 (in_arg hi (by decide)) ?_
  refine a_aload_n (pc := 2541) (i := 3) C dL_law_2541 rfl rfl ?_
  refine a_perm (pw3 _ _ _ _ _) ?_
  refine a_xSW (pc := 2542) (As := [.ref (A 0), .int (xs (Int32.toNatClampNeg (i + 1))), .int (xs (Int32.toNatClampNeg (i + 2))), .int (xs (Int32.toNatClampNeg (i + 3))), .int (xs (Int32.toNatClampNeg (i + 4))), .int (xs (Int32.toNatClampNeg (i + 5))), .int (xs (Int32.toNatClampNeg (i + 6))), .int (xs (Int32.toNatClampNeg (i + 7))), .ref o]) (st := []) C (c_L_errand (k_X11_errand (ka := ka) hl0 (post := fun ov x => s2_errand ov x y (xs (Int32.toNatClampNeg (i + 1))) (xs (Int32.toNatClampNeg (i + 2))) (xs (Int32.toNatClampNeg (i + 3))) (xs (Int32.toNatClampNeg (i + 4))) (xs (Int32.toNatClampNeg (i + 5))) (xs (Int32.toNatClampNeg (i + 6))) (xs (Int32.toNatClampNeg (i + 7))) post) A (fun pl' hp => hw pl' (fun z hz => hp z (List.mem_cons_of_mem _ (List.mem_append_right _ (List.mem_append_right _ hz)))))) rfl) dL_law_2542 mth_L_errand tml_L_191 (fun _ _ h => h.1.1) (FzD_ok ka) (rmXw (Nat.le_of_ble_eq_true rfl) hk hn) (Nat.le_of_ble_eq_true rfl) rfl rfl (fun r u hw => ?_)
  obtain ⟨ov, hw, hr⟩ := hpO_ov hw
  obtain ⟨u, f1⟩ := u
  dsimp only at hw hr
  refine a_perm (ws' := WL (cxG X) A (u1 (u1 (u1 (u1 (u1 (u1 (u1 (u1 (u1 (u1 (u1 x.1 30 u.2.1) 31 u.2.2.1) 32 u.2.2.2.1) 33 u.2.2.2.2.1) 34 u.2.2.2.2.2.1) 35 u.2.2.2.2.2.2.1) 36 u.2.2.2.2.2.2.2.1) 37 u.2.2.2.2.2.2.2.2.1) 38 u.2.2.2.2.2.2.2.2.2.1) 39 u.2.2.2.2.2.2.2.2.2.2.1) 40 u.2.2.2.2.2.2.2.2.2.2.2.1, u1 (u1 x.2.1 21 u.2.2.2.2.2.2.2.2.2.2.2.2.2.2.1) 22 u.2.2.2.2.2.2.2.2.2.2.2.2.2.2.2, u1 (u1 x.2.2.1 10 u.2.2.2.2.2.2.2.2.2.2.2.2.1) 11 u.2.2.2.2.2.2.2.2.2.2.2.2.2.1, x.2.2.2.1, u.1, x.2.2.2.2.2.1, x.2.2.2.2.2.2) B y M o f1) (pl' := pl) (pw3 _ _ _ _ _).symm ?_
  generalize ((u1 (u1 (u1 (u1 (u1 (u1 (u1 (u1 (u1 (u1 (u1 x.1 30 u.2.1) 31 u.2.2.1) 32 u.2.2.2.1) 33 u.2.2.2.2.1) 34 u.2.2.2.2.2.1) 35 u.2.2.2.2.2.2.1) 36 u.2.2.2.2.2.2.2.1) 37 u.2.2.2.2.2.2.2.2.1) 38 u.2.2.2.2.2.2.2.2.2.1) 39 u.2.2.2.2.2.2.2.2.2.2.1) 40 u.2.2.2.2.2.2.2.2.2.2.2.1, u1 (u1 x.2.1 21 u.2.2.2.2.2.2.2.2.2.2.2.2.2.2.1) 22 u.2.2.2.2.2.2.2.2.2.2.2.2.2.2.2, u1 (u1 x.2.2.1 10 u.2.2.2.2.2.2.2.2.2.2.2.2.1) 11 u.2.2.2.2.2.2.2.2.2.2.2.2.2.1, x.2.2.2.1, u.1, x.2.2.2.2.2.1, x.2.2.2.2.2.2) : XS) = x1 at hw ⊢
  refine a_istore (pc := 2545) (i := 5) C dL_law_2545 (Nat.le_of_ble_eq_true rfl) rfl ?_
  show AW X 8 (k + 1) (n + 6) (WL (cxG X) A x1 B y M o f1) pl 2547 [some (.ref b), some (.ref (A 0)), some (.ref (B 0)), some (.ref o), some (.int i), some (.int r), none, none] []
  refine a_aload_n (pc := 2547) (i := 2) C dL_law_2547 rfl rfl ?_
  refine a_aload_n (pc := 2548) (i := 0) C dL_law_2548 rfl rfl ?_
  refine a_iload (pc := 2549) (i := 4) C dL_law_2549 rfl ?_
  refine a_iconst (pc := 2551) (v := 1) C dL_law_2551 rfl ?_
  refine a_iadd (pc := 2552) C dL_law_2552 ?_
  refine a_sld (pc := 2553) C dL_law_2553 (in_arg hi (by decide)) ?_
  refine a_aload_n (pc := 2554) (i := 0) C dL_law_2554 rfl rfl ?_
  refine a_iload (pc := 2555) (i := 4) C dL_law_2555 rfl ?_
  refine a_iconst (pc := 2557) (v := 2) C dL_law_2557 rfl ?_
  refine a_iadd (pc := 2558) C dL_law_2558 ?_
  refine a_sld (pc := 2559) C dL_law_2559 (in_arg hi (by decide)) ?_
  refine a_aload_n (pc := 2560) (i := 0) C dL_law_2560 rfl rfl ?_
  refine a_iload (pc := 2561) (i := 4) C dL_law_2561 rfl ?_
  refine a_iconst (pc := 2563) (v := 3) C dL_law_2563 rfl ?_
  refine a_iadd (pc := 2564) C dL_law_2564 ?_
  refine a_sld (pc := 2565) C dL_law_2565 (in_arg hi (by decide)) ?_
  refine a_aload_n (pc := 2566) (i := 0) C dL_law_2566 rfl rfl ?_
  refine a_iload (pc := 2567) (i := 4) C dL_law_2567 rfl ?_
  refine a_iconst (pc := 2569) (v := 4) C dL_law_2569 rfl ?_
  refine a_iadd (pc := 2570) C dL_law_2570 ?_
  refine a_sld (pc := 2571) C dL_law_2571 (in_arg hi (by decide)) ?_
  refine a_aload_n (pc := 2572) (i := 0) C dL_law_2572 rfl rfl ?_
  refine a_iload (pc := 2573) (i := 4) C dL_law_2573 rfl ?_
  refine a_iconst (pc := 2575) (v := 5) C dL_law_2575 rfl ?_
  refine a_iadd (pc := 2576) C dL_law_2576 ?_
  refine a_sld (pc := 2577) C dL_law_2577 (in_arg hi (by decide)) ?_
  refine a_aload_n (pc := 2578) (i := 0) C dL_law_2578 rfl rfl ?_
  refine a_iload (pc := 2579) (i := 4) C dL_law_2579 rfl ?_
  refine a_bipush (pc := 2581) (v := 6) C dL_law_2581 rfl ?_
  refine a_iadd (pc := 2583) C dL_law_2583 ?_
  refine a_sld (pc := 2584) C dL_law_2584 (in_arg hi (by decide)) ?_
  refine a_aload_n (pc := 2585) (i := 0) C dL_law_2585 rfl rfl ?_
  refine a_iload (pc := 2586) (i := 4) C dL_law_2586 rfl ?_
  refine a_bipush (pc := 2588) (v := 7) C dL_law_2588 rfl ?_
  refine a_iadd (pc := 2590) C dL_law_2590 ?_
  refine a_sld (pc := 2591) C dL_law_2591 (in_arg hi (by decide)) ?_
  refine a_perm (pw2 _ _ _ _) ?_
  refine a_xVi (pc := 2592) (As := [.int (xs (Int32.toNatClampNeg (i + 1))), .int (xs (Int32.toNatClampNeg (i + 2))), .int (xs (Int32.toNatClampNeg (i + 3))), .int (xs (Int32.toNatClampNeg (i + 4))), .int (xs (Int32.toNatClampNeg (i + 5))), .int (xs (Int32.toNatClampNeg (i + 6))), .int (xs (Int32.toNatClampNeg (i + 7)))]) (st := []) C (k_X12_errand (post := fun r2 y => s3I ov r2 x1 y post) B hw) dL_law_2592 mth_X12_errand tml_L_193 (fun _ _ _ => trivial) Fz0_ok (rmLv (Nat.le_of_ble_eq_true rfl) (Nat.le_of_ble_eq_true rfl) hk hn) (Nat.le_of_ble_eq_true rfl) rfl rfl (ci := 12) rfl ⟨0, _, rfl⟩ (m := 30) (fun _ => rfl) (fun r2 u hw => ?_)
  refine a_perm (ws' := WL (cxG X) A x1 B (u1 (u1 y.1 0 u.1) 6 u.2.1, u1 (u1 (u1 (u1 (u1 (u1 (u1 (u1 (u1 y.2.1 10 u.2.2.1) 8 u.2.2.2.1) 9 u.2.2.2.2.1) 6 u.2.2.2.2.2.1) 7 u.2.2.2.2.2.2.1) 11 u.2.2.2.2.2.2.2.1) 16 u.2.2.2.2.2.2.2.2.1) 12 u.2.2.2.2.2.2.2.2.2.1) 13 u.2.2.2.2.2.2.2.2.2.2, y.2.2) M o f1) (pl' := pl) (pw2 _ _ _ _).symm ?_
  generalize ((u1 (u1 y.1 0 u.1) 6 u.2.1, u1 (u1 (u1 (u1 (u1 (u1 (u1 (u1 (u1 y.2.1 10 u.2.2.1) 8 u.2.2.2.1) 9 u.2.2.2.2.1) 6 u.2.2.2.2.2.1) 7 u.2.2.2.2.2.2.1) 11 u.2.2.2.2.2.2.2.1) 16 u.2.2.2.2.2.2.2.2.1) 12 u.2.2.2.2.2.2.2.2.2.1) 13 u.2.2.2.2.2.2.2.2.2.2, y.2.2) : YS) = y1 at hw ⊢
  refine a_istore (pc := 2595) (i := 6) C dL_law_2595 (Nat.le_of_ble_eq_true rfl) rfl ?_
  show AW X 8 (k + 1) (n + 6) (WL (cxG X) A x1 B y1 M o f1) pl 2597 [some (.ref b), some (.ref (A 0)), some (.ref (B 0)), some (.ref o), some (.int i), some (.int r), some (.int r2), none] []
  refine a_aload_n (pc := 2597) (i := 2) C dL_law_2597 rfl rfl ?_
  refine a_perm (pw2 _ _ _ _) ?_
  refine a_xVi (pc := 2598) (As := []) (st := []) C (k_X12_thrown (post := fun t y => ((ov = none ∧ t = 1) ∨ (ov = some r2 ∧ t = 0)) ∧ post x1 y) B hw) dL_law_2598 mth_X12_thrown tml_L_98 (fun _ _ _ => trivial) Fz0_ok (rmLv (Nat.le_of_ble_eq_true rfl) (Nat.le_of_ble_eq_true rfl) hk hn) (Nat.le_of_ble_eq_true rfl) rfl rfl (ci := 12) rfl ⟨0, _, rfl⟩ (m := 30) (fun _ => rfl) (fun t u hw => ?_)
  refine a_perm (ws' := WL (cxG X) A x1 B y1 M o f1) (pl' := pl) (pw2 _ _ _ _).symm ?_
  refine a_iload (pc := 2601) (i := 5) C dL_law_2601 rfl ?_
  obtain ⟨ht, hp⟩ := hw
  have key : t = r ∧ (r = 0 → f1 0 = Int32.toInt64 r2) := by
    rcases hr with ⟨h1, v, h2, h3⟩ | ⟨h1, h2⟩
    · rcases ht with ⟨h4, -⟩ | ⟨h4, h5⟩
      · rw [h2] at h4; cases h4
      · rw [h2] at h4; cases h4; exact ⟨h5.trans h1.symm, fun _ => by rw [h3]; rfl⟩
    · rcases ht with ⟨-, h5⟩ | ⟨h4, -⟩
      · exact ⟨h5.trans h1.symm, fun z => by rw [h1] at z; exact absurd z (by decide)⟩
      · rw [h2] at h4; cases h4
  refine a_icmp_eq (pc := 2603) (tgt := 2608) C dL_law_2603 (by decide) (fun _ => ?_) (fun c => absurd key.1 c)
  have fin : AW X 8 (k + 1) (n + 6) (WL (cxG X) A x1 B y1 M o f1) pl 2625 [some (.ref b), some (.ref (A 0)), some (.ref (B 0)), some (.ref o), some (.int i), some (.int r), some (.int r2), none] [] := by
    refine a_goto (pc := 2625) (tgt := 3322) C dL_law_2625 (by decide) ?_
    refine a_msk [true, true, true, true, true, false, false, false] rfl ?_
    exact a_widen (by omega) (by omega) (kk _ _ _ hp)
  refine a_iload (pc := 2608) (i := 5) C dL_law_2608 rfl ?_
  refine a_if_ne (pc := 2610) (tgt := 2625) C dL_law_2610 (by decide) (fun _ => fin) (fun c => ?_)
  refine a_aload_n (pc := 2613) (i := 3) C dL_law_2613 rfl rfl ?_
  refine a_iconst (pc := 2614) (v := 0) C dL_law_2614 rfl ?_
  refine a_perm (pw4 _ _ _ _ _) ?_
  refine a_lald (pc := 2615) C dL_law_2615 0 rfl vp_in01 ?_
  refine a_perm (ws' := WL (cxG X) A x1 B y1 M o f1) (pl' := pl) (pw4 _ _ _ _ _).symm ?_
  refine a_iload (pc := 2616) (i := 6) C dL_law_2616 rfl ?_
  refine a_i2l (pc := 2618) C dL_law_2618 ?_
  refine a_lcmp (pc := 2619) C dL_law_2619 ?_
  refine a_if_eq (pc := 2620) (tgt := 2625) C dL_law_2620 (by decide) (fun _ => fin) (fun z => absurd ?_ z)
  show lg_cmp (f1 0) (Int32.toInt64 r2) = 0
  rw [key.2 c]
  exact cmp_self _
set_option maxRecDepth 20000 in
theorem lc_meet {X : Ctx} {ka : KA} {b L : Nat} {xs : Nat → Int32} (C : Cok X cL_law 8 RL room_1 (FzL ka b L xs)) {k n : Nat} (hk : k + 1001 ≤ 601024) (hn : n + 6006 ≤ 7293033) {i : Int32} (hi : 0 ≤ i.toInt ∧ i.toInt + 10 ≤ L ∧ L ≤ 5120) {A B : Nat → Nat} {x : XS} {y : YS} {M : MK} {o : Nat} {f : Nat → Int64} {pl : Pool} (hl0 : (cxL X).stackTraces = false) {post : XS → YS → Prop} (hw : s1_meet pl x y (xs (Int32.toNatClampNeg (i + 1))) (xs (Int32.toNatClampNeg (i + 2))) (xs (Int32.toNatClampNeg (i + 3))) (xs (Int32.toNatClampNeg (i + 4))) (xs (Int32.toNatClampNeg (i + 5))) (xs (Int32.toNatClampNeg (i + 6))) (xs (Int32.toNatClampNeg (i + 7))) post) (kk : ∀ x y f, post x y → AW X 8 (k + 1001) (n + 6006) (WL (cxG X) A x B y M o f) pl 3322 [some (.ref b), some (.ref (A 0)), some (.ref (B 0)), some (.ref o), some (.int i), none, none, none] []) : AW X 8 k n (WL (cxG X) A x B y M o f) pl 2628 [some (.ref b), some (.ref (A 0)), some (.ref (B 0)), some (.ref o), some (.int i), none, none, none] [] := by
  refine a_aload_n (pc := 2628) (i := 1) C dL_law_2628 rfl rfl ?_
  refine a_aload_n (pc := 2629) (i := 0) C dL_law_2629 rfl rfl ?_
  refine a_iload (pc := 2630) (i := 4) C dL_law_2630 rfl ?_
  refine a_iconst (pc := 2632) (v := 1) C dL_law_2632 rfl ?_
  refine a_iadd (pc := 2633) C dL_law_2633 ?_
  refine a_sld (pc := 2634) C dL_law_2634 (in_arg hi (by decide)) ?_
  refine a_aload_n (pc := 2635) (i := 0) C dL_law_2635 rfl rfl ?_
  refine a_iload (pc := 2636) (i := 4) C dL_law_2636 rfl ?_
  refine a_iconst (pc := 2638) (v := 2) C dL_law_2638 rfl ?_
  refine a_iadd (pc := 2639) C dL_law_2639 ?_
  refine a_sld (pc := 2640) C dL_law_2640 (in_arg hi (by decide)) ?_
  refine a_aload_n (pc := 2641) (i := 0) C dL_law_2641 rfl rfl ?_
  refine a_iload (pc := 2642) (i := 4) C dL_law_2642 rfl ?_
  refine a_iconst (pc := 2644) (v := 3) C dL_law_2644 rfl ?_
  refine a_iadd (pc := 2645) C dL_law_2645 ?_
  refine a_sld (pc := 2646) C dL_law_2646 (in_arg hi (by decide)) ?_
  refine a_aload_n (pc := 2647) (i := 0) C dL_law_2647 rfl rfl ?_
  refine a_iload (pc := 2648) (i := 4) C dL_law_2648 rfl ?_
  refine a_iconst (pc := 2650) (v := 4) C dL_law_2650 rfl ?_
  refine a_iadd (pc := 2651) C dL_law_2651 ?_
  refine a_sld (pc := 2652) C dL_law_2652 (in_arg hi (by decide)) ?_
  refine a_aload_n (pc := 2653) (i := 0) C dL_law_2653 rfl rfl ?_
  refine a_iload (pc := 2654) (i := 4) C dL_law_2654 rfl ?_
  refine a_iconst (pc := 2656) (v := 5) C dL_law_2656 rfl ?_
  refine a_iadd (pc := 2657) C dL_law_2657 ?_
  refine a_sld (pc := 2658) C dL_law_2658 (in_arg hi (by decide)) ?_
  refine a_aload_n (pc := 2659) (i := 0) C dL_law_2659 rfl rfl ?_
  refine a_iload (pc := 2660) (i := 4) C dL_law_2660 rfl ?_
  refine a_bipush (pc := 2662) (v := 6) C dL_law_2662 rfl ?_
  refine a_iadd (pc := 2664) C dL_law_2664 ?_
  refine a_sld (pc := 2665) C dL_law_2665 (in_arg hi (by decide)) ?_
  refine a_aload_n (pc := 2666) (i := 0) C dL_law_2666 rfl rfl ?_
  refine a_iload (pc := 2667) (i := 4) C dL_law_2667 rfl ?_
  refine a_bipush (pc := 2669) (v := 7) C dL_law_2669 rfl ?_
  refine a_iadd (pc := 2671) C dL_law_2671 ?_
  refine a_sld (pc := 2672) C dL_law_2672 (in_arg hi (by decide)) ?_
  refine a_aload_n (pc := 2673) (i := 3) C dL_law_2673 rfl rfl ?_
  refine a_perm (pw3 _ _ _ _ _) ?_
  refine a_xSW (pc := 2674) (As := [.ref (A 0), .int (xs (Int32.toNatClampNeg (i + 1))), .int (xs (Int32.toNatClampNeg (i + 2))), .int (xs (Int32.toNatClampNeg (i + 3))), .int (xs (Int32.toNatClampNeg (i + 4))), .int (xs (Int32.toNatClampNeg (i + 5))), .int (xs (Int32.toNatClampNeg (i + 6))), .int (xs (Int32.toNatClampNeg (i + 7))), .ref o]) (st := []) C (c_L_meet (k_X11_meet (ka := ka) hl0 (post := fun ov x => s2_meet ov x y (xs (Int32.toNatClampNeg (i + 1))) (xs (Int32.toNatClampNeg (i + 2))) (xs (Int32.toNatClampNeg (i + 3))) (xs (Int32.toNatClampNeg (i + 4))) (xs (Int32.toNatClampNeg (i + 5))) (xs (Int32.toNatClampNeg (i + 6))) (xs (Int32.toNatClampNeg (i + 7))) post) A (fun pl' hp => hw pl' (fun z hz => hp z (List.mem_cons_of_mem _ (List.mem_append_right _ (List.mem_append_right _ hz)))))) rfl) dL_law_2674 mth_L_meet tml_L_194 (fun _ _ h => h.1.1) (FzD_ok ka) (rmXw (Nat.le_of_ble_eq_true rfl) hk hn) (Nat.le_of_ble_eq_true rfl) rfl rfl (fun r u hw => ?_)
  obtain ⟨ov, hw, hr⟩ := hpO_ov hw
  obtain ⟨u, f1⟩ := u
  dsimp only at hw hr
  refine a_perm (ws' := WL (cxG X) A (u1 (u1 (u1 (u1 (u1 (u1 (u1 (u1 (u1 (u1 (u1 x.1 30 u.2.1) 31 u.2.2.1) 32 u.2.2.2.1) 33 u.2.2.2.2.1) 34 u.2.2.2.2.2.1) 35 u.2.2.2.2.2.2.1) 36 u.2.2.2.2.2.2.2.1) 37 u.2.2.2.2.2.2.2.2.1) 38 u.2.2.2.2.2.2.2.2.2.1) 39 u.2.2.2.2.2.2.2.2.2.2.1) 40 u.2.2.2.2.2.2.2.2.2.2.2.1, u1 (u1 x.2.1 21 u.2.2.2.2.2.2.2.2.2.2.2.2.2.2.1) 22 u.2.2.2.2.2.2.2.2.2.2.2.2.2.2.2, u1 (u1 x.2.2.1 10 u.2.2.2.2.2.2.2.2.2.2.2.2.1) 11 u.2.2.2.2.2.2.2.2.2.2.2.2.2.1, x.2.2.2.1, u.1, x.2.2.2.2.2.1, x.2.2.2.2.2.2) B y M o f1) (pl' := pl) (pw3 _ _ _ _ _).symm ?_
  generalize ((u1 (u1 (u1 (u1 (u1 (u1 (u1 (u1 (u1 (u1 (u1 x.1 30 u.2.1) 31 u.2.2.1) 32 u.2.2.2.1) 33 u.2.2.2.2.1) 34 u.2.2.2.2.2.1) 35 u.2.2.2.2.2.2.1) 36 u.2.2.2.2.2.2.2.1) 37 u.2.2.2.2.2.2.2.2.1) 38 u.2.2.2.2.2.2.2.2.2.1) 39 u.2.2.2.2.2.2.2.2.2.2.1) 40 u.2.2.2.2.2.2.2.2.2.2.2.1, u1 (u1 x.2.1 21 u.2.2.2.2.2.2.2.2.2.2.2.2.2.2.1) 22 u.2.2.2.2.2.2.2.2.2.2.2.2.2.2.2, u1 (u1 x.2.2.1 10 u.2.2.2.2.2.2.2.2.2.2.2.2.1) 11 u.2.2.2.2.2.2.2.2.2.2.2.2.2.1, x.2.2.2.1, u.1, x.2.2.2.2.2.1, x.2.2.2.2.2.2) : XS) = x1 at hw ⊢
  refine a_istore (pc := 2677) (i := 5) C dL_law_2677 (Nat.le_of_ble_eq_true rfl) rfl ?_
  show AW X 8 (k + 1) (n + 6) (WL (cxG X) A x1 B y M o f1) pl 2679 [some (.ref b), some (.ref (A 0)), some (.ref (B 0)), some (.ref o), some (.int i), some (.int r), none, none] []
  refine a_aload_n (pc := 2679) (i := 2) C dL_law_2679 rfl rfl ?_
  refine a_aload_n (pc := 2680) (i := 0) C dL_law_2680 rfl rfl ?_
  refine a_iload (pc := 2681) (i := 4) C dL_law_2681 rfl ?_
  refine a_iconst (pc := 2683) (v := 1) C dL_law_2683 rfl ?_
  refine a_iadd (pc := 2684) C dL_law_2684 ?_
  refine a_sld (pc := 2685) C dL_law_2685 (in_arg hi (by decide)) ?_
  refine a_aload_n (pc := 2686) (i := 0) C dL_law_2686 rfl rfl ?_
  refine a_iload (pc := 2687) (i := 4) C dL_law_2687 rfl ?_
  refine a_iconst (pc := 2689) (v := 2) C dL_law_2689 rfl ?_
  refine a_iadd (pc := 2690) C dL_law_2690 ?_
  refine a_sld (pc := 2691) C dL_law_2691 (in_arg hi (by decide)) ?_
  refine a_aload_n (pc := 2692) (i := 0) C dL_law_2692 rfl rfl ?_
  refine a_iload (pc := 2693) (i := 4) C dL_law_2693 rfl ?_
  refine a_iconst (pc := 2695) (v := 3) C dL_law_2695 rfl ?_
  refine a_iadd (pc := 2696) C dL_law_2696 ?_
  refine a_sld (pc := 2697) C dL_law_2697 (in_arg hi (by decide)) ?_
  refine a_aload_n (pc := 2698) (i := 0) C dL_law_2698 rfl rfl ?_
  refine a_iload (pc := 2699) (i := 4) C dL_law_2699 rfl ?_
  refine a_iconst (pc := 2701) (v := 4) C dL_law_2701 rfl ?_
  refine a_iadd (pc := 2702) C dL_law_2702 ?_
  refine a_sld (pc := 2703) C dL_law_2703 (in_arg hi (by decide)) ?_
  refine a_aload_n (pc := 2704) (i := 0) C dL_law_2704 rfl rfl ?_
  refine a_iload (pc := 2705) (i := 4) C dL_law_2705 rfl ?_
  refine a_iconst (pc := 2707) (v := 5) C dL_law_2707 rfl ?_
  refine a_iadd (pc := 2708) C dL_law_2708 ?_
  refine a_sld (pc := 2709) C dL_law_2709 (in_arg hi (by decide)) ?_
  refine a_aload_n (pc := 2710) (i := 0) C dL_law_2710 rfl rfl ?_
  refine a_iload (pc := 2711) (i := 4) C dL_law_2711 rfl ?_
  refine a_bipush (pc := 2713) (v := 6) C dL_law_2713 rfl ?_
  refine a_iadd (pc := 2715) C dL_law_2715 ?_
  refine a_sld (pc := 2716) C dL_law_2716 (in_arg hi (by decide)) ?_
  refine a_aload_n (pc := 2717) (i := 0) C dL_law_2717 rfl rfl ?_
  refine a_iload (pc := 2718) (i := 4) C dL_law_2718 rfl ?_
  refine a_bipush (pc := 2720) (v := 7) C dL_law_2720 rfl ?_
  refine a_iadd (pc := 2722) C dL_law_2722 ?_
  refine a_sld (pc := 2723) C dL_law_2723 (in_arg hi (by decide)) ?_
  refine a_perm (pw2 _ _ _ _) ?_
  refine a_xVi (pc := 2724) (As := [.int (xs (Int32.toNatClampNeg (i + 1))), .int (xs (Int32.toNatClampNeg (i + 2))), .int (xs (Int32.toNatClampNeg (i + 3))), .int (xs (Int32.toNatClampNeg (i + 4))), .int (xs (Int32.toNatClampNeg (i + 5))), .int (xs (Int32.toNatClampNeg (i + 6))), .int (xs (Int32.toNatClampNeg (i + 7)))]) (st := []) C (k_X12_meet (post := fun r2 y => s3I ov r2 x1 y post) B hw) dL_law_2724 mth_X12_meet tml_L_196 (fun _ _ _ => trivial) Fz0_ok (rmLv (Nat.le_of_ble_eq_true rfl) (Nat.le_of_ble_eq_true rfl) hk hn) (Nat.le_of_ble_eq_true rfl) rfl rfl (ci := 12) rfl ⟨0, _, rfl⟩ (m := 30) (fun _ => rfl) (fun r2 u hw => ?_)
  refine a_perm (ws' := WL (cxG X) A x1 B (u1 (u1 y.1 0 u.1) 6 u.2.1, u1 (u1 (u1 (u1 (u1 (u1 (u1 (u1 y.2.1 10 u.2.2.1) 8 u.2.2.2.1) 9 u.2.2.2.2.1) 6 u.2.2.2.2.2.1) 7 u.2.2.2.2.2.2.1) 11 u.2.2.2.2.2.2.2.1) 16 u.2.2.2.2.2.2.2.2.1) 23 u.2.2.2.2.2.2.2.2.2, y.2.2) M o f1) (pl' := pl) (pw2 _ _ _ _).symm ?_
  generalize ((u1 (u1 y.1 0 u.1) 6 u.2.1, u1 (u1 (u1 (u1 (u1 (u1 (u1 (u1 y.2.1 10 u.2.2.1) 8 u.2.2.2.1) 9 u.2.2.2.2.1) 6 u.2.2.2.2.2.1) 7 u.2.2.2.2.2.2.1) 11 u.2.2.2.2.2.2.2.1) 16 u.2.2.2.2.2.2.2.2.1) 23 u.2.2.2.2.2.2.2.2.2, y.2.2) : YS) = y1 at hw ⊢
  refine a_istore (pc := 2727) (i := 6) C dL_law_2727 (Nat.le_of_ble_eq_true rfl) rfl ?_
  show AW X 8 (k + 1) (n + 6) (WL (cxG X) A x1 B y1 M o f1) pl 2729 [some (.ref b), some (.ref (A 0)), some (.ref (B 0)), some (.ref o), some (.int i), some (.int r), some (.int r2), none] []
  refine a_aload_n (pc := 2729) (i := 2) C dL_law_2729 rfl rfl ?_
  refine a_perm (pw2 _ _ _ _) ?_
  refine a_xVi (pc := 2730) (As := []) (st := []) C (k_X12_thrown (post := fun t y => ((ov = none ∧ t = 1) ∨ (ov = some r2 ∧ t = 0)) ∧ post x1 y) B hw) dL_law_2730 mth_X12_thrown tml_L_98 (fun _ _ _ => trivial) Fz0_ok (rmLv (Nat.le_of_ble_eq_true rfl) (Nat.le_of_ble_eq_true rfl) hk hn) (Nat.le_of_ble_eq_true rfl) rfl rfl (ci := 12) rfl ⟨0, _, rfl⟩ (m := 30) (fun _ => rfl) (fun t u hw => ?_)
  refine a_perm (ws' := WL (cxG X) A x1 B y1 M o f1) (pl' := pl) (pw2 _ _ _ _).symm ?_
  refine a_iload (pc := 2733) (i := 5) C dL_law_2733 rfl ?_
  obtain ⟨ht, hp⟩ := hw
  have key : t = r ∧ (r = 0 → f1 0 = Int32.toInt64 r2) := by
    rcases hr with ⟨h1, v, h2, h3⟩ | ⟨h1, h2⟩
    · rcases ht with ⟨h4, -⟩ | ⟨h4, h5⟩
      · rw [h2] at h4; cases h4
      · rw [h2] at h4; cases h4; exact ⟨h5.trans h1.symm, fun _ => by rw [h3]; rfl⟩
    · rcases ht with ⟨-, h5⟩ | ⟨h4, -⟩
      · exact ⟨h5.trans h1.symm, fun z => by rw [h1] at z; exact absurd z (by decide)⟩
      · rw [h2] at h4; cases h4
  refine a_icmp_eq (pc := 2735) (tgt := 2740) C dL_law_2735 (by decide) (fun _ => ?_) (fun c => absurd key.1 c)
  have fin : AW X 8 (k + 1) (n + 6) (WL (cxG X) A x1 B y1 M o f1) pl 2757 [some (.ref b), some (.ref (A 0)), some (.ref (B 0)), some (.ref o), some (.int i), some (.int r), some (.int r2), none] [] := by
    refine a_goto (pc := 2757) (tgt := 3322) C dL_law_2757 (by decide) ?_
    refine a_msk [true, true, true, true, true, false, false, false] rfl ?_
    exact a_widen (by omega) (by omega) (kk _ _ _ hp)
  refine a_iload (pc := 2740) (i := 5) C dL_law_2740 rfl ?_
  refine a_if_ne (pc := 2742) (tgt := 2757) C dL_law_2742 (by decide) (fun _ => fin) (fun c => ?_)
  refine a_aload_n (pc := 2745) (i := 3) C dL_law_2745 rfl rfl ?_
  refine a_iconst (pc := 2746) (v := 0) C dL_law_2746 rfl ?_
  refine a_perm (pw4 _ _ _ _ _) ?_
  refine a_lald (pc := 2747) C dL_law_2747 0 rfl vp_in01 ?_
  refine a_perm (ws' := WL (cxG X) A x1 B y1 M o f1) (pl' := pl) (pw4 _ _ _ _ _).symm ?_
  refine a_iload (pc := 2748) (i := 6) C dL_law_2748 rfl ?_
  refine a_i2l (pc := 2750) C dL_law_2750 ?_
  refine a_lcmp (pc := 2751) C dL_law_2751 ?_
  refine a_if_eq (pc := 2752) (tgt := 2757) C dL_law_2752 (by decide) (fun _ => fin) (fun z => absurd ?_ z)
  show lg_cmp (f1 0) (Int32.toInt64 r2) = 0
  rw [key.2 c]
  exact cmp_self _
set_option maxRecDepth 20000 in
theorem lc_cover {X : Ctx} {ka : KA} {b L : Nat} {xs : Nat → Int32} (C : Cok X cL_law 8 RL room_1 (FzL ka b L xs)) {k n : Nat} (hk : k + 1001 ≤ 601024) (hn : n + 6006 ≤ 7293033) {i : Int32} (hi : 0 ≤ i.toInt ∧ i.toInt + 10 ≤ L ∧ L ≤ 5120) {A B : Nat → Nat} {x : XS} {y : YS} {M : MK} {o : Nat} {f : Nat → Int64} {pl : Pool} (hl0 : (cxL X).stackTraces = false) {post : XS → YS → Prop} (hw : s1_cover pl x y (xs (Int32.toNatClampNeg (i + 1))) (xs (Int32.toNatClampNeg (i + 2))) (xs (Int32.toNatClampNeg (i + 3))) (xs (Int32.toNatClampNeg (i + 4))) (xs (Int32.toNatClampNeg (i + 5))) (xs (Int32.toNatClampNeg (i + 6))) post) (kk : ∀ x y f, post x y → AW X 8 (k + 1001) (n + 6006) (WL (cxG X) A x B y M o f) pl 3322 [some (.ref b), some (.ref (A 0)), some (.ref (B 0)), some (.ref o), some (.int i), none, none, none] []) : AW X 8 k n (WL (cxG X) A x B y M o f) pl 2760 [some (.ref b), some (.ref (A 0)), some (.ref (B 0)), some (.ref o), some (.int i), none, none, none] [] := by
  refine a_aload_n (pc := 2760) (i := 1) C dL_law_2760 rfl rfl ?_
  refine a_aload_n (pc := 2761) (i := 0) C dL_law_2761 rfl rfl ?_
  refine a_iload (pc := 2762) (i := 4) C dL_law_2762 rfl ?_
  refine a_iconst (pc := 2764) (v := 1) C dL_law_2764 rfl ?_
  refine a_iadd (pc := 2765) C dL_law_2765 ?_
  refine a_sld (pc := 2766) C dL_law_2766 (in_arg hi (by decide)) ?_
  refine a_aload_n (pc := 2767) (i := 0) C dL_law_2767 rfl rfl ?_
  refine a_iload (pc := 2768) (i := 4) C dL_law_2768 rfl ?_
  refine a_iconst (pc := 2770) (v := 2) C dL_law_2770 rfl ?_
  refine a_iadd (pc := 2771) C dL_law_2771 ?_
  refine a_sld (pc := 2772) C dL_law_2772 (in_arg hi (by decide)) ?_
  refine a_aload_n (pc := 2773) (i := 0) C dL_law_2773 rfl rfl ?_
  refine a_iload (pc := 2774) (i := 4) C dL_law_2774 rfl ?_
  refine a_iconst (pc := 2776) (v := 3) C dL_law_2776 rfl ?_
  refine a_iadd (pc := 2777) C dL_law_2777 ?_
  refine a_sld (pc := 2778) C dL_law_2778 (in_arg hi (by decide)) ?_
  refine a_aload_n (pc := 2779) (i := 0) C dL_law_2779 rfl rfl ?_
  refine a_iload (pc := 2780) (i := 4) C dL_law_2780 rfl ?_
  refine a_iconst (pc := 2782) (v := 4) C dL_law_2782 rfl ?_
  refine a_iadd (pc := 2783) C dL_law_2783 ?_
  refine a_sld (pc := 2784) C dL_law_2784 (in_arg hi (by decide)) ?_
  refine a_aload_n (pc := 2785) (i := 0) C dL_law_2785 rfl rfl ?_
  refine a_iload (pc := 2786) (i := 4) C dL_law_2786 rfl ?_
  refine a_iconst (pc := 2788) (v := 5) C dL_law_2788 rfl ?_
  refine a_iadd (pc := 2789) C dL_law_2789 ?_
  refine a_sld (pc := 2790) C dL_law_2790 (in_arg hi (by decide)) ?_
  refine a_aload_n (pc := 2791) (i := 0) C dL_law_2791 rfl rfl ?_
  refine a_iload (pc := 2792) (i := 4) C dL_law_2792 rfl ?_
  refine a_bipush (pc := 2794) (v := 6) C dL_law_2794 rfl ?_
  refine a_iadd (pc := 2796) C dL_law_2796 ?_
  refine a_sld (pc := 2797) C dL_law_2797 (in_arg hi (by decide)) ?_
  refine a_aload_n (pc := 2798) (i := 3) C dL_law_2798 rfl rfl ?_
  refine a_perm (pw3 _ _ _ _ _) ?_
  refine a_xSW (pc := 2799) (As := [.ref (A 0), .int (xs (Int32.toNatClampNeg (i + 1))), .int (xs (Int32.toNatClampNeg (i + 2))), .int (xs (Int32.toNatClampNeg (i + 3))), .int (xs (Int32.toNatClampNeg (i + 4))), .int (xs (Int32.toNatClampNeg (i + 5))), .int (xs (Int32.toNatClampNeg (i + 6))), .ref o]) (st := []) C (c_L_cover (k_X11_cover (ka := ka) hl0 (post := fun ov x => s2_cover ov x y (xs (Int32.toNatClampNeg (i + 1))) (xs (Int32.toNatClampNeg (i + 2))) (xs (Int32.toNatClampNeg (i + 3))) (xs (Int32.toNatClampNeg (i + 4))) (xs (Int32.toNatClampNeg (i + 5))) (xs (Int32.toNatClampNeg (i + 6))) post) A (fun pl' hp => hw pl' (fun z hz => hp z (List.mem_cons_of_mem _ (List.mem_append_right _ (List.mem_append_right _ hz)))))) rfl) dL_law_2799 mth_L_cover tml_L_197 (fun _ _ h => h.1.1) (FzD_ok ka) (rmXw (Nat.le_of_ble_eq_true rfl) hk hn) (Nat.le_of_ble_eq_true rfl) rfl rfl (fun r u hw => ?_)
  obtain ⟨ov, hw, hr⟩ := hpO_ov hw
  obtain ⟨u, f1⟩ := u
  dsimp only at hw hr
  refine a_perm (ws' := WL (cxG X) A (u1 (u1 (u1 (u1 (u1 (u1 (u1 (u1 (u1 (u1 (u1 (u1 (u1 (u1 x.1 30 u.2.1) 31 u.2.2.1) 32 u.2.2.2.1) 33 u.2.2.2.2.1) 34 u.2.2.2.2.2.1) 35 u.2.2.2.2.2.2.1) 36 u.2.2.2.2.2.2.2.1) 37 u.2.2.2.2.2.2.2.2.1) 38 u.2.2.2.2.2.2.2.2.2.1) 39 u.2.2.2.2.2.2.2.2.2.2.1) 40 u.2.2.2.2.2.2.2.2.2.2.2.1) 43 u.2.2.2.2.2.2.2.2.2.2.2.2.2.2.2.1) 44 u.2.2.2.2.2.2.2.2.2.2.2.2.2.2.2.2.1) 45 u.2.2.2.2.2.2.2.2.2.2.2.2.2.2.2.2.2.1, u1 (u1 x.2.1 21 u.2.2.2.2.2.2.2.2.2.2.2.2.2.2.1) 22 u.2.2.2.2.2.2.2.2.2.2.2.2.2.2.2.2.2.2.1, u1 (u1 (u1 x.2.2.1 10 u.2.2.2.2.2.2.2.2.2.2.2.2.1) 11 u.2.2.2.2.2.2.2.2.2.2.2.2.2.1) 13 u.2.2.2.2.2.2.2.2.2.2.2.2.2.2.2.2.2.2.2, x.2.2.2.1, u.1, x.2.2.2.2.2.1, x.2.2.2.2.2.2) B y M o f1) (pl' := pl) (pw3 _ _ _ _ _).symm ?_
  generalize ((u1 (u1 (u1 (u1 (u1 (u1 (u1 (u1 (u1 (u1 (u1 (u1 (u1 (u1 x.1 30 u.2.1) 31 u.2.2.1) 32 u.2.2.2.1) 33 u.2.2.2.2.1) 34 u.2.2.2.2.2.1) 35 u.2.2.2.2.2.2.1) 36 u.2.2.2.2.2.2.2.1) 37 u.2.2.2.2.2.2.2.2.1) 38 u.2.2.2.2.2.2.2.2.2.1) 39 u.2.2.2.2.2.2.2.2.2.2.1) 40 u.2.2.2.2.2.2.2.2.2.2.2.1) 43 u.2.2.2.2.2.2.2.2.2.2.2.2.2.2.2.1) 44 u.2.2.2.2.2.2.2.2.2.2.2.2.2.2.2.2.1) 45 u.2.2.2.2.2.2.2.2.2.2.2.2.2.2.2.2.2.1, u1 (u1 x.2.1 21 u.2.2.2.2.2.2.2.2.2.2.2.2.2.2.1) 22 u.2.2.2.2.2.2.2.2.2.2.2.2.2.2.2.2.2.2.1, u1 (u1 (u1 x.2.2.1 10 u.2.2.2.2.2.2.2.2.2.2.2.2.1) 11 u.2.2.2.2.2.2.2.2.2.2.2.2.2.1) 13 u.2.2.2.2.2.2.2.2.2.2.2.2.2.2.2.2.2.2.2, x.2.2.2.1, u.1, x.2.2.2.2.2.1, x.2.2.2.2.2.2) : XS) = x1 at hw ⊢
  refine a_istore (pc := 2802) (i := 5) C dL_law_2802 (Nat.le_of_ble_eq_true rfl) rfl ?_
  show AW X 8 (k + 1) (n + 6) (WL (cxG X) A x1 B y M o f1) pl 2804 [some (.ref b), some (.ref (A 0)), some (.ref (B 0)), some (.ref o), some (.int i), some (.int r), none, none] []
  refine a_aload_n (pc := 2804) (i := 2) C dL_law_2804 rfl rfl ?_
  refine a_aload_n (pc := 2805) (i := 0) C dL_law_2805 rfl rfl ?_
  refine a_iload (pc := 2806) (i := 4) C dL_law_2806 rfl ?_
  refine a_iconst (pc := 2808) (v := 1) C dL_law_2808 rfl ?_
  refine a_iadd (pc := 2809) C dL_law_2809 ?_
  refine a_sld (pc := 2810) C dL_law_2810 (in_arg hi (by decide)) ?_
  refine a_aload_n (pc := 2811) (i := 0) C dL_law_2811 rfl rfl ?_
  refine a_iload (pc := 2812) (i := 4) C dL_law_2812 rfl ?_
  refine a_iconst (pc := 2814) (v := 2) C dL_law_2814 rfl ?_
  refine a_iadd (pc := 2815) C dL_law_2815 ?_
  refine a_sld (pc := 2816) C dL_law_2816 (in_arg hi (by decide)) ?_
  refine a_aload_n (pc := 2817) (i := 0) C dL_law_2817 rfl rfl ?_
  refine a_iload (pc := 2818) (i := 4) C dL_law_2818 rfl ?_
  refine a_iconst (pc := 2820) (v := 3) C dL_law_2820 rfl ?_
  refine a_iadd (pc := 2821) C dL_law_2821 ?_
  refine a_sld (pc := 2822) C dL_law_2822 (in_arg hi (by decide)) ?_
  refine a_aload_n (pc := 2823) (i := 0) C dL_law_2823 rfl rfl ?_
  refine a_iload (pc := 2824) (i := 4) C dL_law_2824 rfl ?_
  refine a_iconst (pc := 2826) (v := 4) C dL_law_2826 rfl ?_
  refine a_iadd (pc := 2827) C dL_law_2827 ?_
  refine a_sld (pc := 2828) C dL_law_2828 (in_arg hi (by decide)) ?_
  refine a_aload_n (pc := 2829) (i := 0) C dL_law_2829 rfl rfl ?_
  refine a_iload (pc := 2830) (i := 4) C dL_law_2830 rfl ?_
  refine a_iconst (pc := 2832) (v := 5) C dL_law_2832 rfl ?_
  refine a_iadd (pc := 2833) C dL_law_2833 ?_
  refine a_sld (pc := 2834) C dL_law_2834 (in_arg hi (by decide)) ?_
  refine a_aload_n (pc := 2835) (i := 0) C dL_law_2835 rfl rfl ?_
  refine a_iload (pc := 2836) (i := 4) C dL_law_2836 rfl ?_
  refine a_bipush (pc := 2838) (v := 6) C dL_law_2838 rfl ?_
  refine a_iadd (pc := 2840) C dL_law_2840 ?_
  refine a_sld (pc := 2841) C dL_law_2841 (in_arg hi (by decide)) ?_
  refine a_perm (pw2 _ _ _ _) ?_
  refine a_xVi (pc := 2842) (As := [.int (xs (Int32.toNatClampNeg (i + 1))), .int (xs (Int32.toNatClampNeg (i + 2))), .int (xs (Int32.toNatClampNeg (i + 3))), .int (xs (Int32.toNatClampNeg (i + 4))), .int (xs (Int32.toNatClampNeg (i + 5))), .int (xs (Int32.toNatClampNeg (i + 6)))]) (st := []) C (k_X12_cover (post := fun r2 y => s3I ov r2 x1 y post) B hw) dL_law_2842 mth_X12_cover tml_L_199 (fun _ _ _ => trivial) Fz0_ok (rmLv (Nat.le_of_ble_eq_true rfl) (Nat.le_of_ble_eq_true rfl) hk hn) (Nat.le_of_ble_eq_true rfl) rfl rfl (ci := 12) rfl ⟨0, _, rfl⟩ (m := 30) (fun _ => rfl) (fun r2 u hw => ?_)
  refine a_perm (ws' := WL (cxG X) A x1 B (u1 (u1 (u1 (u1 y.1 0 u.1) 6 u.2.1) 9 u.2.2.1) 10 u.2.2.2.1, u1 (u1 (u1 (u1 (u1 (u1 (u1 (u1 (u1 y.2.1 3 u.2.2.2.2.1) 10 u.2.2.2.2.2.1) 8 u.2.2.2.2.2.2.1) 9 u.2.2.2.2.2.2.2.1) 6 u.2.2.2.2.2.2.2.2.1) 7 u.2.2.2.2.2.2.2.2.2.1) 11 u.2.2.2.2.2.2.2.2.2.2.1) 12 u.2.2.2.2.2.2.2.2.2.2.2.1) 13 u.2.2.2.2.2.2.2.2.2.2.2.2, y.2.2) M o f1) (pl' := pl) (pw2 _ _ _ _).symm ?_
  generalize ((u1 (u1 (u1 (u1 y.1 0 u.1) 6 u.2.1) 9 u.2.2.1) 10 u.2.2.2.1, u1 (u1 (u1 (u1 (u1 (u1 (u1 (u1 (u1 y.2.1 3 u.2.2.2.2.1) 10 u.2.2.2.2.2.1) 8 u.2.2.2.2.2.2.1) 9 u.2.2.2.2.2.2.2.1) 6 u.2.2.2.2.2.2.2.2.1) 7 u.2.2.2.2.2.2.2.2.2.1) 11 u.2.2.2.2.2.2.2.2.2.2.1) 12 u.2.2.2.2.2.2.2.2.2.2.2.1) 13 u.2.2.2.2.2.2.2.2.2.2.2.2, y.2.2) : YS) = y1 at hw ⊢
  refine a_istore (pc := 2845) (i := 6) C dL_law_2845 (Nat.le_of_ble_eq_true rfl) rfl ?_
  show AW X 8 (k + 1) (n + 6) (WL (cxG X) A x1 B y1 M o f1) pl 2847 [some (.ref b), some (.ref (A 0)), some (.ref (B 0)), some (.ref o), some (.int i), some (.int r), some (.int r2), none] []
  refine a_aload_n (pc := 2847) (i := 2) C dL_law_2847 rfl rfl ?_
  refine a_perm (pw2 _ _ _ _) ?_
  refine a_xVi (pc := 2848) (As := []) (st := []) C (k_X12_thrown (post := fun t y => ((ov = none ∧ t = 1) ∨ (ov = some r2 ∧ t = 0)) ∧ post x1 y) B hw) dL_law_2848 mth_X12_thrown tml_L_98 (fun _ _ _ => trivial) Fz0_ok (rmLv (Nat.le_of_ble_eq_true rfl) (Nat.le_of_ble_eq_true rfl) hk hn) (Nat.le_of_ble_eq_true rfl) rfl rfl (ci := 12) rfl ⟨0, _, rfl⟩ (m := 30) (fun _ => rfl) (fun t u hw => ?_)
  refine a_perm (ws' := WL (cxG X) A x1 B y1 M o f1) (pl' := pl) (pw2 _ _ _ _).symm ?_
  refine a_iload (pc := 2851) (i := 5) C dL_law_2851 rfl ?_
  obtain ⟨ht, hp⟩ := hw
  have key : t = r ∧ (r = 0 → f1 0 = Int32.toInt64 r2) := by
    rcases hr with ⟨h1, v, h2, h3⟩ | ⟨h1, h2⟩
    · rcases ht with ⟨h4, -⟩ | ⟨h4, h5⟩
      · rw [h2] at h4; cases h4
      · rw [h2] at h4; cases h4; exact ⟨h5.trans h1.symm, fun _ => by rw [h3]; rfl⟩
    · rcases ht with ⟨-, h5⟩ | ⟨h4, -⟩
      · exact ⟨h5.trans h1.symm, fun z => by rw [h1] at z; exact absurd z (by decide)⟩
      · rw [h2] at h4; cases h4
  refine a_icmp_eq (pc := 2853) (tgt := 2858) C dL_law_2853 (by decide) (fun _ => ?_) (fun c => absurd key.1 c)
  have fin : AW X 8 (k + 1) (n + 6) (WL (cxG X) A x1 B y1 M o f1) pl 2875 [some (.ref b), some (.ref (A 0)), some (.ref (B 0)), some (.ref o), some (.int i), some (.int r), some (.int r2), none] [] := by
    refine a_goto (pc := 2875) (tgt := 3322) C dL_law_2875 (by decide) ?_
    refine a_msk [true, true, true, true, true, false, false, false] rfl ?_
    exact a_widen (by omega) (by omega) (kk _ _ _ hp)
  refine a_iload (pc := 2858) (i := 5) C dL_law_2858 rfl ?_
  refine a_if_ne (pc := 2860) (tgt := 2875) C dL_law_2860 (by decide) (fun _ => fin) (fun c => ?_)
  refine a_aload_n (pc := 2863) (i := 3) C dL_law_2863 rfl rfl ?_
  refine a_iconst (pc := 2864) (v := 0) C dL_law_2864 rfl ?_
  refine a_perm (pw4 _ _ _ _ _) ?_
  refine a_lald (pc := 2865) C dL_law_2865 0 rfl vp_in01 ?_
  refine a_perm (ws' := WL (cxG X) A x1 B y1 M o f1) (pl' := pl) (pw4 _ _ _ _ _).symm ?_
  refine a_iload (pc := 2866) (i := 6) C dL_law_2866 rfl ?_
  refine a_i2l (pc := 2868) C dL_law_2868 ?_
  refine a_lcmp (pc := 2869) C dL_law_2869 ?_
  refine a_if_eq (pc := 2870) (tgt := 2875) C dL_law_2870 (by decide) (fun _ => fin) (fun z => absurd ?_ z)
  show lg_cmp (f1 0) (Int32.toInt64 r2) = 0
  rw [key.2 c]
  exact cmp_self _
set_option maxRecDepth 20000 in
theorem lc_keeps {X : Ctx} {ka : KA} {b L : Nat} {xs : Nat → Int32} (C : Cok X cL_law 8 RL room_1 (FzL ka b L xs)) {k n : Nat} (hk : k + 1001 ≤ 601024) (hn : n + 6006 ≤ 7293033) {i : Int32} (hi : 0 ≤ i.toInt ∧ i.toInt + 10 ≤ L ∧ L ≤ 5120) {A B : Nat → Nat} {x : XS} {y : YS} {M : MK} {o : Nat} {f : Nat → Int64} {pl : Pool} (hl0 : (cxL X).stackTraces = false) {post : XS → YS → Prop} (hw : s1_keeps pl x y (xs (Int32.toNatClampNeg (i + 1))) (xs (Int32.toNatClampNeg (i + 2))) (xs (Int32.toNatClampNeg (i + 3))) (xs (Int32.toNatClampNeg (i + 4))) (xs (Int32.toNatClampNeg (i + 5))) (xs (Int32.toNatClampNeg (i + 6))) post) (kk : ∀ x y f, post x y → AW X 8 (k + 1001) (n + 6006) (WL (cxG X) A x B y M o f) pl 3322 [some (.ref b), some (.ref (A 0)), some (.ref (B 0)), some (.ref o), some (.int i), none, none, none] []) : AW X 8 k n (WL (cxG X) A x B y M o f) pl 2878 [some (.ref b), some (.ref (A 0)), some (.ref (B 0)), some (.ref o), some (.int i), none, none, none] [] := by
  refine a_aload_n (pc := 2878) (i := 1) C dL_law_2878 rfl rfl ?_
  refine a_aload_n (pc := 2879) (i := 0) C dL_law_2879 rfl rfl ?_
  refine a_iload (pc := 2880) (i := 4) C dL_law_2880 rfl ?_
  refine a_iconst (pc := 2882) (v := 1) C dL_law_2882 rfl ?_
  refine a_iadd (pc := 2883) C dL_law_2883 ?_
  refine a_sld (pc := 2884) C dL_law_2884 (in_arg hi (by decide)) ?_
  refine a_aload_n (pc := 2885) (i := 0) C dL_law_2885 rfl rfl ?_
  refine a_iload (pc := 2886) (i := 4) C dL_law_2886 rfl ?_
  refine a_iconst (pc := 2888) (v := 2) C dL_law_2888 rfl ?_
  refine a_iadd (pc := 2889) C dL_law_2889 ?_
  refine a_sld (pc := 2890) C dL_law_2890 (in_arg hi (by decide)) ?_
  refine a_aload_n (pc := 2891) (i := 0) C dL_law_2891 rfl rfl ?_
  refine a_iload (pc := 2892) (i := 4) C dL_law_2892 rfl ?_
  refine a_iconst (pc := 2894) (v := 3) C dL_law_2894 rfl ?_
  refine a_iadd (pc := 2895) C dL_law_2895 ?_
  refine a_sld (pc := 2896) C dL_law_2896 (in_arg hi (by decide)) ?_
  refine a_aload_n (pc := 2897) (i := 0) C dL_law_2897 rfl rfl ?_
  refine a_iload (pc := 2898) (i := 4) C dL_law_2898 rfl ?_
  refine a_iconst (pc := 2900) (v := 4) C dL_law_2900 rfl ?_
  refine a_iadd (pc := 2901) C dL_law_2901 ?_
  refine a_sld (pc := 2902) C dL_law_2902 (in_arg hi (by decide)) ?_
  refine a_aload_n (pc := 2903) (i := 0) C dL_law_2903 rfl rfl ?_
  refine a_iload (pc := 2904) (i := 4) C dL_law_2904 rfl ?_
  refine a_iconst (pc := 2906) (v := 5) C dL_law_2906 rfl ?_
  refine a_iadd (pc := 2907) C dL_law_2907 ?_
  refine a_sld (pc := 2908) C dL_law_2908 (in_arg hi (by decide)) ?_
  refine a_aload_n (pc := 2909) (i := 0) C dL_law_2909 rfl rfl ?_
  refine a_iload (pc := 2910) (i := 4) C dL_law_2910 rfl ?_
  refine a_bipush (pc := 2912) (v := 6) C dL_law_2912 rfl ?_
  refine a_iadd (pc := 2914) C dL_law_2914 ?_
  refine a_sld (pc := 2915) C dL_law_2915 (in_arg hi (by decide)) ?_
  refine a_aload_n (pc := 2916) (i := 3) C dL_law_2916 rfl rfl ?_
  refine a_perm (pw3 _ _ _ _ _) ?_
  refine a_xSW (pc := 2917) (As := [.ref (A 0), .int (xs (Int32.toNatClampNeg (i + 1))), .int (xs (Int32.toNatClampNeg (i + 2))), .int (xs (Int32.toNatClampNeg (i + 3))), .int (xs (Int32.toNatClampNeg (i + 4))), .int (xs (Int32.toNatClampNeg (i + 5))), .int (xs (Int32.toNatClampNeg (i + 6))), .ref o]) (st := []) C (c_L_keeps (k_X11_keeps (ka := ka) hl0 (post := fun ov x => s2_keeps ov x y (xs (Int32.toNatClampNeg (i + 1))) (xs (Int32.toNatClampNeg (i + 2))) (xs (Int32.toNatClampNeg (i + 3))) (xs (Int32.toNatClampNeg (i + 4))) (xs (Int32.toNatClampNeg (i + 5))) (xs (Int32.toNatClampNeg (i + 6))) post) A (fun pl' hp => hw pl' (fun z hz => hp z (List.mem_cons_of_mem _ (List.mem_append_right _ (List.mem_append_right _ hz)))))) rfl) dL_law_2917 mth_L_keeps tml_L_200 (fun _ _ h => h.1.1) (FzD_ok ka) (rmXw (Nat.le_of_ble_eq_true rfl) hk hn) (Nat.le_of_ble_eq_true rfl) rfl rfl (fun r u hw => ?_)
  obtain ⟨ov, hw, hr⟩ := hpO_ov hw
  obtain ⟨u, f1⟩ := u
  dsimp only at hw hr
  refine a_perm (ws' := WL (cxG X) A (u1 (u1 (u1 (u1 (u1 (u1 (u1 (u1 (u1 (u1 (u1 x.1 30 u.2.2.1) 31 u.2.2.2.1) 32 u.2.2.2.2.1) 33 u.2.2.2.2.2.1) 34 u.2.2.2.2.2.2.1) 35 u.2.2.2.2.2.2.2.1) 36 u.2.2.2.2.2.2.2.2.1) 37 u.2.2.2.2.2.2.2.2.2.1) 38 u.2.2.2.2.2.2.2.2.2.2.1) 39 u.2.2.2.2.2.2.2.2.2.2.2.1) 40 u.2.2.2.2.2.2.2.2.2.2.2.2.1, u1 (u1 (u1 (u1 (u1 x.2.1 0 u.1) 21 u.2.2.2.2.2.2.2.2.2.2.2.2.2.2.2.2.1) 18 u.2.2.2.2.2.2.2.2.2.2.2.2.2.2.2.2.2.1) 1 u.2.2.2.2.2.2.2.2.2.2.2.2.2.2.2.2.2.2.1) 17 u.2.2.2.2.2.2.2.2.2.2.2.2.2.2.2.2.2.2.2.2.2.1, u1 (u1 (u1 (u1 (u1 (u1 x.2.2.1 10 u.2.2.2.2.2.2.2.2.2.2.2.2.2.1) 6 u.2.2.2.2.2.2.2.2.2.2.2.2.2.2.1) 11 u.2.2.2.2.2.2.2.2.2.2.2.2.2.2.2.1) 8 u.2.2.2.2.2.2.2.2.2.2.2.2.2.2.2.2.2.2.2.1) 9 u.2.2.2.2.2.2.2.2.2.2.2.2.2.2.2.2.2.2.2.2.1) 7 u.2.2.2.2.2.2.2.2.2.2.2.2.2.2.2.2.2.2.2.2.2.2, x.2.2.2.1, u.2.1, x.2.2.2.2.2.1, x.2.2.2.2.2.2) B y M o f1) (pl' := pl) (pw3 _ _ _ _ _).symm ?_
  generalize ((u1 (u1 (u1 (u1 (u1 (u1 (u1 (u1 (u1 (u1 (u1 x.1 30 u.2.2.1) 31 u.2.2.2.1) 32 u.2.2.2.2.1) 33 u.2.2.2.2.2.1) 34 u.2.2.2.2.2.2.1) 35 u.2.2.2.2.2.2.2.1) 36 u.2.2.2.2.2.2.2.2.1) 37 u.2.2.2.2.2.2.2.2.2.1) 38 u.2.2.2.2.2.2.2.2.2.2.1) 39 u.2.2.2.2.2.2.2.2.2.2.2.1) 40 u.2.2.2.2.2.2.2.2.2.2.2.2.1, u1 (u1 (u1 (u1 (u1 x.2.1 0 u.1) 21 u.2.2.2.2.2.2.2.2.2.2.2.2.2.2.2.2.1) 18 u.2.2.2.2.2.2.2.2.2.2.2.2.2.2.2.2.2.1) 1 u.2.2.2.2.2.2.2.2.2.2.2.2.2.2.2.2.2.2.1) 17 u.2.2.2.2.2.2.2.2.2.2.2.2.2.2.2.2.2.2.2.2.2.1, u1 (u1 (u1 (u1 (u1 (u1 x.2.2.1 10 u.2.2.2.2.2.2.2.2.2.2.2.2.2.1) 6 u.2.2.2.2.2.2.2.2.2.2.2.2.2.2.1) 11 u.2.2.2.2.2.2.2.2.2.2.2.2.2.2.2.1) 8 u.2.2.2.2.2.2.2.2.2.2.2.2.2.2.2.2.2.2.2.1) 9 u.2.2.2.2.2.2.2.2.2.2.2.2.2.2.2.2.2.2.2.2.1) 7 u.2.2.2.2.2.2.2.2.2.2.2.2.2.2.2.2.2.2.2.2.2.2, x.2.2.2.1, u.2.1, x.2.2.2.2.2.1, x.2.2.2.2.2.2) : XS) = x1 at hw ⊢
  refine a_istore (pc := 2920) (i := 5) C dL_law_2920 (Nat.le_of_ble_eq_true rfl) rfl ?_
  show AW X 8 (k + 1) (n + 6) (WL (cxG X) A x1 B y M o f1) pl 2922 [some (.ref b), some (.ref (A 0)), some (.ref (B 0)), some (.ref o), some (.int i), some (.int r), none, none] []
  refine a_aload_n (pc := 2922) (i := 2) C dL_law_2922 rfl rfl ?_
  refine a_aload_n (pc := 2923) (i := 0) C dL_law_2923 rfl rfl ?_
  refine a_iload (pc := 2924) (i := 4) C dL_law_2924 rfl ?_
  refine a_iconst (pc := 2926) (v := 1) C dL_law_2926 rfl ?_
  refine a_iadd (pc := 2927) C dL_law_2927 ?_
  refine a_sld (pc := 2928) C dL_law_2928 (in_arg hi (by decide)) ?_
  refine a_aload_n (pc := 2929) (i := 0) C dL_law_2929 rfl rfl ?_
  refine a_iload (pc := 2930) (i := 4) C dL_law_2930 rfl ?_
  refine a_iconst (pc := 2932) (v := 2) C dL_law_2932 rfl ?_
  refine a_iadd (pc := 2933) C dL_law_2933 ?_
  refine a_sld (pc := 2934) C dL_law_2934 (in_arg hi (by decide)) ?_
  refine a_aload_n (pc := 2935) (i := 0) C dL_law_2935 rfl rfl ?_
  refine a_iload (pc := 2936) (i := 4) C dL_law_2936 rfl ?_
  refine a_iconst (pc := 2938) (v := 3) C dL_law_2938 rfl ?_
  refine a_iadd (pc := 2939) C dL_law_2939 ?_
  refine a_sld (pc := 2940) C dL_law_2940 (in_arg hi (by decide)) ?_
  refine a_aload_n (pc := 2941) (i := 0) C dL_law_2941 rfl rfl ?_
  refine a_iload (pc := 2942) (i := 4) C dL_law_2942 rfl ?_
  refine a_iconst (pc := 2944) (v := 4) C dL_law_2944 rfl ?_
  refine a_iadd (pc := 2945) C dL_law_2945 ?_
  refine a_sld (pc := 2946) C dL_law_2946 (in_arg hi (by decide)) ?_
  refine a_aload_n (pc := 2947) (i := 0) C dL_law_2947 rfl rfl ?_
  refine a_iload (pc := 2948) (i := 4) C dL_law_2948 rfl ?_
  refine a_iconst (pc := 2950) (v := 5) C dL_law_2950 rfl ?_
  refine a_iadd (pc := 2951) C dL_law_2951 ?_
  refine a_sld (pc := 2952) C dL_law_2952 (in_arg hi (by decide)) ?_
  refine a_aload_n (pc := 2953) (i := 0) C dL_law_2953 rfl rfl ?_
  refine a_iload (pc := 2954) (i := 4) C dL_law_2954 rfl ?_
  refine a_bipush (pc := 2956) (v := 6) C dL_law_2956 rfl ?_
  refine a_iadd (pc := 2958) C dL_law_2958 ?_
  refine a_sld (pc := 2959) C dL_law_2959 (in_arg hi (by decide)) ?_
  refine a_perm (pw2 _ _ _ _) ?_
  refine a_xVi (pc := 2960) (As := [.int (xs (Int32.toNatClampNeg (i + 1))), .int (xs (Int32.toNatClampNeg (i + 2))), .int (xs (Int32.toNatClampNeg (i + 3))), .int (xs (Int32.toNatClampNeg (i + 4))), .int (xs (Int32.toNatClampNeg (i + 5))), .int (xs (Int32.toNatClampNeg (i + 6)))]) (st := []) C (k_X12_keeps (post := fun r2 y => s3I ov r2 x1 y post) B hw) dL_law_2960 mth_X12_keeps tml_L_202 (fun _ _ _ => trivial) Fz0_ok (rmLv (Nat.le_of_ble_eq_true rfl) (Nat.le_of_ble_eq_true rfl) hk hn) (Nat.le_of_ble_eq_true rfl) rfl rfl (ci := 12) rfl ⟨0, _, rfl⟩ (m := 30) (fun _ => rfl) (fun r2 u hw => ?_)
  refine a_perm (ws' := WL (cxG X) A x1 B (u1 (u1 y.1 0 u.1) 6 u.2.1, u1 (u1 (u1 (u1 (u1 (u1 (u1 (u1 (u1 y.2.1 3 u.2.2.1) 10 u.2.2.2.1) 8 u.2.2.2.2.1) 9 u.2.2.2.2.2.1) 6 u.2.2.2.2.2.2.1) 7 u.2.2.2.2.2.2.2.1) 11 u.2.2.2.2.2.2.2.2.1) 12 u.2.2.2.2.2.2.2.2.2.1) 13 u.2.2.2.2.2.2.2.2.2.2, y.2.2) M o f1) (pl' := pl) (pw2 _ _ _ _).symm ?_
  generalize ((u1 (u1 y.1 0 u.1) 6 u.2.1, u1 (u1 (u1 (u1 (u1 (u1 (u1 (u1 (u1 y.2.1 3 u.2.2.1) 10 u.2.2.2.1) 8 u.2.2.2.2.1) 9 u.2.2.2.2.2.1) 6 u.2.2.2.2.2.2.1) 7 u.2.2.2.2.2.2.2.1) 11 u.2.2.2.2.2.2.2.2.1) 12 u.2.2.2.2.2.2.2.2.2.1) 13 u.2.2.2.2.2.2.2.2.2.2, y.2.2) : YS) = y1 at hw ⊢
  refine a_istore (pc := 2963) (i := 6) C dL_law_2963 (Nat.le_of_ble_eq_true rfl) rfl ?_
  show AW X 8 (k + 1) (n + 6) (WL (cxG X) A x1 B y1 M o f1) pl 2965 [some (.ref b), some (.ref (A 0)), some (.ref (B 0)), some (.ref o), some (.int i), some (.int r), some (.int r2), none] []
  refine a_aload_n (pc := 2965) (i := 2) C dL_law_2965 rfl rfl ?_
  refine a_perm (pw2 _ _ _ _) ?_
  refine a_xVi (pc := 2966) (As := []) (st := []) C (k_X12_thrown (post := fun t y => ((ov = none ∧ t = 1) ∨ (ov = some r2 ∧ t = 0)) ∧ post x1 y) B hw) dL_law_2966 mth_X12_thrown tml_L_98 (fun _ _ _ => trivial) Fz0_ok (rmLv (Nat.le_of_ble_eq_true rfl) (Nat.le_of_ble_eq_true rfl) hk hn) (Nat.le_of_ble_eq_true rfl) rfl rfl (ci := 12) rfl ⟨0, _, rfl⟩ (m := 30) (fun _ => rfl) (fun t u hw => ?_)
  refine a_perm (ws' := WL (cxG X) A x1 B y1 M o f1) (pl' := pl) (pw2 _ _ _ _).symm ?_
  refine a_iload (pc := 2969) (i := 5) C dL_law_2969 rfl ?_
  obtain ⟨ht, hp⟩ := hw
  have key : t = r ∧ (r = 0 → f1 0 = Int32.toInt64 r2) := by
    rcases hr with ⟨h1, v, h2, h3⟩ | ⟨h1, h2⟩
    · rcases ht with ⟨h4, -⟩ | ⟨h4, h5⟩
      · rw [h2] at h4; cases h4
      · rw [h2] at h4; cases h4; exact ⟨h5.trans h1.symm, fun _ => by rw [h3]; rfl⟩
    · rcases ht with ⟨-, h5⟩ | ⟨h4, -⟩
      · exact ⟨h5.trans h1.symm, fun z => by rw [h1] at z; exact absurd z (by decide)⟩
      · rw [h2] at h4; cases h4
  refine a_icmp_eq (pc := 2971) (tgt := 2976) C dL_law_2971 (by decide) (fun _ => ?_) (fun c => absurd key.1 c)
  have fin : AW X 8 (k + 1) (n + 6) (WL (cxG X) A x1 B y1 M o f1) pl 2993 [some (.ref b), some (.ref (A 0)), some (.ref (B 0)), some (.ref o), some (.int i), some (.int r), some (.int r2), none] [] := by
    refine a_goto (pc := 2993) (tgt := 3322) C dL_law_2993 (by decide) ?_
    refine a_msk [true, true, true, true, true, false, false, false] rfl ?_
    exact a_widen (by omega) (by omega) (kk _ _ _ hp)
  refine a_iload (pc := 2976) (i := 5) C dL_law_2976 rfl ?_
  refine a_if_ne (pc := 2978) (tgt := 2993) C dL_law_2978 (by decide) (fun _ => fin) (fun c => ?_)
  refine a_aload_n (pc := 2981) (i := 3) C dL_law_2981 rfl rfl ?_
  refine a_iconst (pc := 2982) (v := 0) C dL_law_2982 rfl ?_
  refine a_perm (pw4 _ _ _ _ _) ?_
  refine a_lald (pc := 2983) C dL_law_2983 0 rfl vp_in01 ?_
  refine a_perm (ws' := WL (cxG X) A x1 B y1 M o f1) (pl' := pl) (pw4 _ _ _ _ _).symm ?_
  refine a_iload (pc := 2984) (i := 6) C dL_law_2984 rfl ?_
  refine a_i2l (pc := 2986) C dL_law_2986 ?_
  refine a_lcmp (pc := 2987) C dL_law_2987 ?_
  refine a_if_eq (pc := 2988) (tgt := 2993) C dL_law_2988 (by decide) (fun _ => fin) (fun z => absurd ?_ z)
  show lg_cmp (f1 0) (Int32.toInt64 r2) = 0
  rw [key.2 c]
  exact cmp_self _
set_option maxRecDepth 20000 in
theorem lc_price {X : Ctx} {ka : KA} {b L : Nat} {xs : Nat → Int32} (C : Cok X cL_law 8 RL room_1 (FzL ka b L xs)) {k n : Nat} (hk : k + 1001 ≤ 601024) (hn : n + 6006 ≤ 7293033) {i : Int32} (hi : 0 ≤ i.toInt ∧ i.toInt + 10 ≤ L ∧ L ≤ 5120) {A B : Nat → Nat} {x : XS} {y : YS} {M : MK} {o : Nat} {f : Nat → Int64} {pl : Pool} (hl0 : (cxL X).stackTraces = false) {post : XS → YS → Prop} (hw : s1_price pl x y (xs (Int32.toNatClampNeg (i + 1))) (xs (Int32.toNatClampNeg (i + 2))) (xs (Int32.toNatClampNeg (i + 3))) (xs (Int32.toNatClampNeg (i + 4))) (xs (Int32.toNatClampNeg (i + 5))) (xs (Int32.toNatClampNeg (i + 6))) (xs (Int32.toNatClampNeg (i + 7))) (xs (Int32.toNatClampNeg (i + 8))) post) (kk : ∀ x y f, post x y → AW X 8 (k + 1001) (n + 6006) (WL (cxG X) A x B y M o f) pl 3322 [some (.ref b), some (.ref (A 0)), some (.ref (B 0)), some (.ref o), some (.int i), none, none, none] []) : AW X 8 k n (WL (cxG X) A x B y M o f) pl 3098 [some (.ref b), some (.ref (A 0)), some (.ref (B 0)), some (.ref o), some (.int i), none, none, none] [] := by
  refine a_aload_n (pc := 3098) (i := 1) C dL_law_3098 rfl rfl ?_
  refine a_aload_n (pc := 3099) (i := 0) C dL_law_3099 rfl rfl ?_
  refine a_iload (pc := 3100) (i := 4) C dL_law_3100 rfl ?_
  refine a_iconst (pc := 3102) (v := 1) C dL_law_3102 rfl ?_
  refine a_iadd (pc := 3103) C dL_law_3103 ?_
  refine a_sld (pc := 3104) C dL_law_3104 (in_arg hi (by decide)) ?_
  refine a_aload_n (pc := 3105) (i := 0) C dL_law_3105 rfl rfl ?_
  refine a_iload (pc := 3106) (i := 4) C dL_law_3106 rfl ?_
  refine a_iconst (pc := 3108) (v := 2) C dL_law_3108 rfl ?_
  refine a_iadd (pc := 3109) C dL_law_3109 ?_
  refine a_sld (pc := 3110) C dL_law_3110 (in_arg hi (by decide)) ?_
  refine a_aload_n (pc := 3111) (i := 0) C dL_law_3111 rfl rfl ?_
  refine a_iload (pc := 3112) (i := 4) C dL_law_3112 rfl ?_
  refine a_iconst (pc := 3114) (v := 3) C dL_law_3114 rfl ?_
  refine a_iadd (pc := 3115) C dL_law_3115 ?_
  refine a_sld (pc := 3116) C dL_law_3116 (in_arg hi (by decide)) ?_
  refine a_aload_n (pc := 3117) (i := 0) C dL_law_3117 rfl rfl ?_
  refine a_iload (pc := 3118) (i := 4) C dL_law_3118 rfl ?_
  refine a_iconst (pc := 3120) (v := 4) C dL_law_3120 rfl ?_
  refine a_iadd (pc := 3121) C dL_law_3121 ?_
  refine a_sld (pc := 3122) C dL_law_3122 (in_arg hi (by decide)) ?_
  refine a_aload_n (pc := 3123) (i := 0) C dL_law_3123 rfl rfl ?_
  refine a_iload (pc := 3124) (i := 4) C dL_law_3124 rfl ?_
  refine a_iconst (pc := 3126) (v := 5) C dL_law_3126 rfl ?_
  refine a_iadd (pc := 3127) C dL_law_3127 ?_
  refine a_sld (pc := 3128) C dL_law_3128 (in_arg hi (by decide)) ?_
  refine a_aload_n (pc := 3129) (i := 0) C dL_law_3129 rfl rfl ?_
  refine a_iload (pc := 3130) (i := 4) C dL_law_3130 rfl ?_
  refine a_bipush (pc := 3132) (v := 6) C dL_law_3132 rfl ?_
  refine a_iadd (pc := 3134) C dL_law_3134 ?_
  refine a_sld (pc := 3135) C dL_law_3135 (in_arg hi (by decide)) ?_
  refine a_aload_n (pc := 3136) (i := 0) C dL_law_3136 rfl rfl ?_
  refine a_iload (pc := 3137) (i := 4) C dL_law_3137 rfl ?_
  refine a_bipush (pc := 3139) (v := 7) C dL_law_3139 rfl ?_
  refine a_iadd (pc := 3141) C dL_law_3141 ?_
  refine a_sld (pc := 3142) C dL_law_3142 (in_arg hi (by decide)) ?_
  refine a_aload_n (pc := 3143) (i := 0) C dL_law_3143 rfl rfl ?_
  refine a_iload (pc := 3144) (i := 4) C dL_law_3144 rfl ?_
  refine a_bipush (pc := 3146) (v := 8) C dL_law_3146 rfl ?_
  refine a_iadd (pc := 3148) C dL_law_3148 ?_
  refine a_sld (pc := 3149) C dL_law_3149 (in_arg hi (by decide)) ?_
  refine a_aload_n (pc := 3150) (i := 3) C dL_law_3150 rfl rfl ?_
  refine a_perm (pw3 _ _ _ _ _) ?_
  refine a_xSW (pc := 3151) (As := [.ref (A 0), .int (xs (Int32.toNatClampNeg (i + 1))), .int (xs (Int32.toNatClampNeg (i + 2))), .int (xs (Int32.toNatClampNeg (i + 3))), .int (xs (Int32.toNatClampNeg (i + 4))), .int (xs (Int32.toNatClampNeg (i + 5))), .int (xs (Int32.toNatClampNeg (i + 6))), .int (xs (Int32.toNatClampNeg (i + 7))), .int (xs (Int32.toNatClampNeg (i + 8))), .ref o]) (st := []) C (c_L_price (k_X11_price (ka := ka) hl0 (post := fun ov x => s2_price ov x y (xs (Int32.toNatClampNeg (i + 1))) (xs (Int32.toNatClampNeg (i + 2))) (xs (Int32.toNatClampNeg (i + 3))) (xs (Int32.toNatClampNeg (i + 4))) (xs (Int32.toNatClampNeg (i + 5))) (xs (Int32.toNatClampNeg (i + 6))) (xs (Int32.toNatClampNeg (i + 7))) (xs (Int32.toNatClampNeg (i + 8))) post) A (fun pl' hp => hw pl' (fun z hz => hp z (List.mem_cons_of_mem _ (List.mem_append_right _ (List.mem_append_right _ hz)))))) rfl) dL_law_3151 mth_L_price tml_L_212 (fun _ _ h => h.1.1) (FzD_ok ka) (rmXw (Nat.le_of_ble_eq_true rfl) hk hn) (Nat.le_of_ble_eq_true rfl) rfl rfl (fun r u hw => ?_)
  obtain ⟨ov, hw, hr⟩ := hpO_ov hw
  obtain ⟨u, f1⟩ := u
  dsimp only at hw hr
  refine a_perm (ws' := WL (cxG X) A (u1 (u1 (u1 (u1 (u1 (u1 (u1 (u1 (u1 (u1 (u1 (u1 (u1 (u1 (u1 (u1 (u1 (u1 (u1 (u1 x.1 30 u.2.2.1) 31 u.2.2.2.1) 32 u.2.2.2.2.1) 33 u.2.2.2.2.2.1) 34 u.2.2.2.2.2.2.1) 35 u.2.2.2.2.2.2.2.1) 36 u.2.2.2.2.2.2.2.2.1) 37 u.2.2.2.2.2.2.2.2.2.1) 38 u.2.2.2.2.2.2.2.2.2.2.1) 39 u.2.2.2.2.2.2.2.2.2.2.2.1) 40 u.2.2.2.2.2.2.2.2.2.2.2.2.1) 41 u.2.2.2.2.2.2.2.2.2.2.2.2.2.1) 46 u.2.2.2.2.2.2.2.2.2.2.2.2.2.2.2.1) 47 u.2.2.2.2.2.2.2.2.2.2.2.2.2.2.2.2.1) 48 u.2.2.2.2.2.2.2.2.2.2.2.2.2.2.2.2.2.1) 49 u.2.2.2.2.2.2.2.2.2.2.2.2.2.2.2.2.2.2.1) 50 u.2.2.2.2.2.2.2.2.2.2.2.2.2.2.2.2.2.2.2.1) 51 u.2.2.2.2.2.2.2.2.2.2.2.2.2.2.2.2.2.2.2.2.1) 52 u.2.2.2.2.2.2.2.2.2.2.2.2.2.2.2.2.2.2.2.2.2.1) 42 u.2.2.2.2.2.2.2.2.2.2.2.2.2.2.2.2.2.2.2.2.2.2.2.2.2.2.1, u1 (u1 (u1 (u1 (u1 (u1 x.2.1 26 u.2.2.2.2.2.2.2.2.2.2.2.2.2.2.2.2.2.2.2.2.2.2.1) 21 u.2.2.2.2.2.2.2.2.2.2.2.2.2.2.2.2.2.2.2.2.2.2.2.2.1) 22 u.2.2.2.2.2.2.2.2.2.2.2.2.2.2.2.2.2.2.2.2.2.2.2.2.2.1) 24 u.2.2.2.2.2.2.2.2.2.2.2.2.2.2.2.2.2.2.2.2.2.2.2.2.2.2.2.1) 23 u.2.2.2.2.2.2.2.2.2.2.2.2.2.2.2.2.2.2.2.2.2.2.2.2.2.2.2.2.1) 25 u.2.2.2.2.2.2.2.2.2.2.2.2.2.2.2.2.2.2.2.2.2.2.2.2.2.2.2.2.2, u1 (u1 x.2.2.1 10 u.2.2.2.2.2.2.2.2.2.2.2.2.2.2.1) 11 u.2.2.2.2.2.2.2.2.2.2.2.2.2.2.2.2.2.2.2.2.2.2.2.1, x.2.2.2.1, u.2.1, u.1, x.2.2.2.2.2.2) B y M o f1) (pl' := pl) (pw3 _ _ _ _ _).symm ?_
  generalize ((u1 (u1 (u1 (u1 (u1 (u1 (u1 (u1 (u1 (u1 (u1 (u1 (u1 (u1 (u1 (u1 (u1 (u1 (u1 (u1 x.1 30 u.2.2.1) 31 u.2.2.2.1) 32 u.2.2.2.2.1) 33 u.2.2.2.2.2.1) 34 u.2.2.2.2.2.2.1) 35 u.2.2.2.2.2.2.2.1) 36 u.2.2.2.2.2.2.2.2.1) 37 u.2.2.2.2.2.2.2.2.2.1) 38 u.2.2.2.2.2.2.2.2.2.2.1) 39 u.2.2.2.2.2.2.2.2.2.2.2.1) 40 u.2.2.2.2.2.2.2.2.2.2.2.2.1) 41 u.2.2.2.2.2.2.2.2.2.2.2.2.2.1) 46 u.2.2.2.2.2.2.2.2.2.2.2.2.2.2.2.1) 47 u.2.2.2.2.2.2.2.2.2.2.2.2.2.2.2.2.1) 48 u.2.2.2.2.2.2.2.2.2.2.2.2.2.2.2.2.2.1) 49 u.2.2.2.2.2.2.2.2.2.2.2.2.2.2.2.2.2.2.1) 50 u.2.2.2.2.2.2.2.2.2.2.2.2.2.2.2.2.2.2.2.1) 51 u.2.2.2.2.2.2.2.2.2.2.2.2.2.2.2.2.2.2.2.2.1) 52 u.2.2.2.2.2.2.2.2.2.2.2.2.2.2.2.2.2.2.2.2.2.1) 42 u.2.2.2.2.2.2.2.2.2.2.2.2.2.2.2.2.2.2.2.2.2.2.2.2.2.2.1, u1 (u1 (u1 (u1 (u1 (u1 x.2.1 26 u.2.2.2.2.2.2.2.2.2.2.2.2.2.2.2.2.2.2.2.2.2.2.1) 21 u.2.2.2.2.2.2.2.2.2.2.2.2.2.2.2.2.2.2.2.2.2.2.2.2.1) 22 u.2.2.2.2.2.2.2.2.2.2.2.2.2.2.2.2.2.2.2.2.2.2.2.2.2.1) 24 u.2.2.2.2.2.2.2.2.2.2.2.2.2.2.2.2.2.2.2.2.2.2.2.2.2.2.2.1) 23 u.2.2.2.2.2.2.2.2.2.2.2.2.2.2.2.2.2.2.2.2.2.2.2.2.2.2.2.2.1) 25 u.2.2.2.2.2.2.2.2.2.2.2.2.2.2.2.2.2.2.2.2.2.2.2.2.2.2.2.2.2, u1 (u1 x.2.2.1 10 u.2.2.2.2.2.2.2.2.2.2.2.2.2.2.1) 11 u.2.2.2.2.2.2.2.2.2.2.2.2.2.2.2.2.2.2.2.2.2.2.2.1, x.2.2.2.1, u.2.1, u.1, x.2.2.2.2.2.2) : XS) = x1 at hw ⊢
  refine a_istore (pc := 3154) (i := 5) C dL_law_3154 (Nat.le_of_ble_eq_true rfl) rfl ?_
  show AW X 8 (k + 1) (n + 6) (WL (cxG X) A x1 B y M o f1) pl 3156 [some (.ref b), some (.ref (A 0)), some (.ref (B 0)), some (.ref o), some (.int i), some (.int r), none, none] []
  refine a_aload_n (pc := 3156) (i := 2) C dL_law_3156 rfl rfl ?_
  refine a_aload_n (pc := 3157) (i := 0) C dL_law_3157 rfl rfl ?_
  refine a_iload (pc := 3158) (i := 4) C dL_law_3158 rfl ?_
  refine a_iconst (pc := 3160) (v := 1) C dL_law_3160 rfl ?_
  refine a_iadd (pc := 3161) C dL_law_3161 ?_
  refine a_sld (pc := 3162) C dL_law_3162 (in_arg hi (by decide)) ?_
  refine a_aload_n (pc := 3163) (i := 0) C dL_law_3163 rfl rfl ?_
  refine a_iload (pc := 3164) (i := 4) C dL_law_3164 rfl ?_
  refine a_iconst (pc := 3166) (v := 2) C dL_law_3166 rfl ?_
  refine a_iadd (pc := 3167) C dL_law_3167 ?_
  refine a_sld (pc := 3168) C dL_law_3168 (in_arg hi (by decide)) ?_
  refine a_aload_n (pc := 3169) (i := 0) C dL_law_3169 rfl rfl ?_
  refine a_iload (pc := 3170) (i := 4) C dL_law_3170 rfl ?_
  refine a_iconst (pc := 3172) (v := 3) C dL_law_3172 rfl ?_
  refine a_iadd (pc := 3173) C dL_law_3173 ?_
  refine a_sld (pc := 3174) C dL_law_3174 (in_arg hi (by decide)) ?_
  refine a_aload_n (pc := 3175) (i := 0) C dL_law_3175 rfl rfl ?_
  refine a_iload (pc := 3176) (i := 4) C dL_law_3176 rfl ?_
  refine a_iconst (pc := 3178) (v := 4) C dL_law_3178 rfl ?_
  refine a_iadd (pc := 3179) C dL_law_3179 ?_
  refine a_sld (pc := 3180) C dL_law_3180 (in_arg hi (by decide)) ?_
  refine a_aload_n (pc := 3181) (i := 0) C dL_law_3181 rfl rfl ?_
  refine a_iload (pc := 3182) (i := 4) C dL_law_3182 rfl ?_
  refine a_iconst (pc := 3184) (v := 5) C dL_law_3184 rfl ?_
  refine a_iadd (pc := 3185) C dL_law_3185 ?_
  refine a_sld (pc := 3186) C dL_law_3186 (in_arg hi (by decide)) ?_
  refine a_aload_n (pc := 3187) (i := 0) C dL_law_3187 rfl rfl ?_
  refine a_iload (pc := 3188) (i := 4) C dL_law_3188 rfl ?_
  refine a_bipush (pc := 3190) (v := 6) C dL_law_3190 rfl ?_
  refine a_iadd (pc := 3192) C dL_law_3192 ?_
  refine a_sld (pc := 3193) C dL_law_3193 (in_arg hi (by decide)) ?_
  refine a_aload_n (pc := 3194) (i := 0) C dL_law_3194 rfl rfl ?_
  refine a_iload (pc := 3195) (i := 4) C dL_law_3195 rfl ?_
  refine a_bipush (pc := 3197) (v := 7) C dL_law_3197 rfl ?_
  refine a_iadd (pc := 3199) C dL_law_3199 ?_
  refine a_sld (pc := 3200) C dL_law_3200 (in_arg hi (by decide)) ?_
  refine a_aload_n (pc := 3201) (i := 0) C dL_law_3201 rfl rfl ?_
  refine a_iload (pc := 3202) (i := 4) C dL_law_3202 rfl ?_
  refine a_bipush (pc := 3204) (v := 8) C dL_law_3204 rfl ?_
  refine a_iadd (pc := 3206) C dL_law_3206 ?_
  refine a_sld (pc := 3207) C dL_law_3207 (in_arg hi (by decide)) ?_
  refine a_perm (pw2 _ _ _ _) ?_
  refine a_xVi (pc := 3208) (As := [.int (xs (Int32.toNatClampNeg (i + 1))), .int (xs (Int32.toNatClampNeg (i + 2))), .int (xs (Int32.toNatClampNeg (i + 3))), .int (xs (Int32.toNatClampNeg (i + 4))), .int (xs (Int32.toNatClampNeg (i + 5))), .int (xs (Int32.toNatClampNeg (i + 6))), .int (xs (Int32.toNatClampNeg (i + 7))), .int (xs (Int32.toNatClampNeg (i + 8)))]) (st := []) C (k_X12_price (post := fun r2 y => s3I ov r2 x1 y post) B hw) dL_law_3208 mth_X12_price tml_L_214 (fun _ _ _ => trivial) Fz0_ok (rmLv (Nat.le_of_ble_eq_true rfl) (Nat.le_of_ble_eq_true rfl) hk hn) (Nat.le_of_ble_eq_true rfl) rfl rfl (ci := 12) rfl ⟨0, _, rfl⟩ (m := 30) (fun _ => rfl) (fun r2 u hw => ?_)
  refine a_perm (ws' := WL (cxG X) A x1 B (u1 (u1 (u1 (u1 y.1 0 u.1) 6 u.2.1) 7 u.2.2.1) 8 u.2.2.2.1, u1 (u1 (u1 (u1 (u1 (u1 (u1 (u1 (u1 (u1 (u1 y.2.1 17 u.2.2.2.2.1) 8 u.2.2.2.2.2.1) 11 u.2.2.2.2.2.2.1) 12 u.2.2.2.2.2.2.2.1) 13 u.2.2.2.2.2.2.2.2.1) 9 u.2.2.2.2.2.2.2.2.2.1) 10 u.2.2.2.2.2.2.2.2.2.2.1) 6 u.2.2.2.2.2.2.2.2.2.2.2.1) 7 u.2.2.2.2.2.2.2.2.2.2.2.2.1) 15 u.2.2.2.2.2.2.2.2.2.2.2.2.2.1) 14 u.2.2.2.2.2.2.2.2.2.2.2.2.2.2, y.2.2) M o f1) (pl' := pl) (pw2 _ _ _ _).symm ?_
  generalize ((u1 (u1 (u1 (u1 y.1 0 u.1) 6 u.2.1) 7 u.2.2.1) 8 u.2.2.2.1, u1 (u1 (u1 (u1 (u1 (u1 (u1 (u1 (u1 (u1 (u1 y.2.1 17 u.2.2.2.2.1) 8 u.2.2.2.2.2.1) 11 u.2.2.2.2.2.2.1) 12 u.2.2.2.2.2.2.2.1) 13 u.2.2.2.2.2.2.2.2.1) 9 u.2.2.2.2.2.2.2.2.2.1) 10 u.2.2.2.2.2.2.2.2.2.2.1) 6 u.2.2.2.2.2.2.2.2.2.2.2.1) 7 u.2.2.2.2.2.2.2.2.2.2.2.2.1) 15 u.2.2.2.2.2.2.2.2.2.2.2.2.2.1) 14 u.2.2.2.2.2.2.2.2.2.2.2.2.2.2, y.2.2) : YS) = y1 at hw ⊢
  refine a_istore (pc := 3211) (i := 6) C dL_law_3211 (Nat.le_of_ble_eq_true rfl) rfl ?_
  show AW X 8 (k + 1) (n + 6) (WL (cxG X) A x1 B y1 M o f1) pl 3213 [some (.ref b), some (.ref (A 0)), some (.ref (B 0)), some (.ref o), some (.int i), some (.int r), some (.int r2), none] []
  refine a_aload_n (pc := 3213) (i := 2) C dL_law_3213 rfl rfl ?_
  refine a_perm (pw2 _ _ _ _) ?_
  refine a_xVi (pc := 3214) (As := []) (st := []) C (k_X12_thrown (post := fun t y => ((ov = none ∧ t = 1) ∨ (ov = some r2 ∧ t = 0)) ∧ post x1 y) B hw) dL_law_3214 mth_X12_thrown tml_L_98 (fun _ _ _ => trivial) Fz0_ok (rmLv (Nat.le_of_ble_eq_true rfl) (Nat.le_of_ble_eq_true rfl) hk hn) (Nat.le_of_ble_eq_true rfl) rfl rfl (ci := 12) rfl ⟨0, _, rfl⟩ (m := 30) (fun _ => rfl) (fun t u hw => ?_)
  refine a_perm (ws' := WL (cxG X) A x1 B y1 M o f1) (pl' := pl) (pw2 _ _ _ _).symm ?_
  refine a_iload (pc := 3217) (i := 5) C dL_law_3217 rfl ?_
  obtain ⟨ht, hp⟩ := hw
  have key : t = r ∧ (r = 0 → f1 0 = Int32.toInt64 r2) := by
    rcases hr with ⟨h1, v, h2, h3⟩ | ⟨h1, h2⟩
    · rcases ht with ⟨h4, -⟩ | ⟨h4, h5⟩
      · rw [h2] at h4; cases h4
      · rw [h2] at h4; cases h4; exact ⟨h5.trans h1.symm, fun _ => by rw [h3]; rfl⟩
    · rcases ht with ⟨-, h5⟩ | ⟨h4, -⟩
      · exact ⟨h5.trans h1.symm, fun z => by rw [h1] at z; exact absurd z (by decide)⟩
      · rw [h2] at h4; cases h4
  refine a_icmp_eq (pc := 3219) (tgt := 3224) C dL_law_3219 (by decide) (fun _ => ?_) (fun c => absurd key.1 c)
  have fin : AW X 8 (k + 1) (n + 6) (WL (cxG X) A x1 B y1 M o f1) pl 3241 [some (.ref b), some (.ref (A 0)), some (.ref (B 0)), some (.ref o), some (.int i), some (.int r), some (.int r2), none] [] := by
    refine a_goto (pc := 3241) (tgt := 3322) C dL_law_3241 (by decide) ?_
    refine a_msk [true, true, true, true, true, false, false, false] rfl ?_
    exact a_widen (by omega) (by omega) (kk _ _ _ hp)
  refine a_iload (pc := 3224) (i := 5) C dL_law_3224 rfl ?_
  refine a_if_ne (pc := 3226) (tgt := 3241) C dL_law_3226 (by decide) (fun _ => fin) (fun c => ?_)
  refine a_aload_n (pc := 3229) (i := 3) C dL_law_3229 rfl rfl ?_
  refine a_iconst (pc := 3230) (v := 0) C dL_law_3230 rfl ?_
  refine a_perm (pw4 _ _ _ _ _) ?_
  refine a_lald (pc := 3231) C dL_law_3231 0 rfl vp_in01 ?_
  refine a_perm (ws' := WL (cxG X) A x1 B y1 M o f1) (pl' := pl) (pw4 _ _ _ _ _).symm ?_
  refine a_iload (pc := 3232) (i := 6) C dL_law_3232 rfl ?_
  refine a_i2l (pc := 3234) C dL_law_3234 ?_
  refine a_lcmp (pc := 3235) C dL_law_3235 ?_
  refine a_if_eq (pc := 3236) (tgt := 3241) C dL_law_3236 (by decide) (fun _ => fin) (fun z => absurd ?_ z)
  show lg_cmp (f1 0) (Int32.toInt64 r2) = 0
  rw [key.2 c]
  exact cmp_self _
