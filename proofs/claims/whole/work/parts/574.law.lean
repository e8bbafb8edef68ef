/-! THE LAW: its loop -/
theorem nI10 {L : Nat} (h : L ≤ 5120) : (nI L - 10).toInt = (L : Int) - 10 := by
  have e : (nI L).toInt = L := nI_toInt (by omega)
  rw [Int32.toInt_sub, e]
  have e10 : (10 : Int32).toInt = 10 := by decide
  rw [e10]
  refine Int.bmod_eq_of_le ?_ ?_ <;> simp <;> omega
theorem i10 {i : Int32} (h : 0 ≤ i.toInt ∧ i.toInt ≤ 5120) : (i + 10).toInt = i.toInt + 10 := by
  rw [Int32.toInt_add]
  have e10 : (10 : Int32).toInt = 10 := by decide
  rw [e10]
  refine Int.bmod_eq_of_le ?_ ?_ <;> simp <;> omega
theorem in_arg0 {i : Int32} {L : Nat} (h : 0 ≤ i.toInt ∧ i.toInt + 10 ≤ L ∧ L ≤ 5120) : vp_in i L := by
  rw [vp_in_iff]
  omega
set_option maxRecDepth 20000 in
set_option maxHeartbeats 4000000 in
theorem lw_loop {X : Ctx} {ka : KA} {b L : Nat} {xs : Nat → Int32} (C : Cok X cL_law 8 RL room_1 (FzL ka b L xs)) (hl0 : (cxL X).stackTraces = false) (hL : L ≤ 5120) {B : Nat → Nat} {o : Nat} {Inv : (Nat → Nat) → XS → YS → MK → Pool → Prop}
    (hMk : ∀ A x y M pl, Inv A x y M pl → ∀ k, k < 4 → XS.t_marks x k = (M k).map (fun p => p.1 0))
    (h_feed : ∀ (i : Int32) A x y M pl, Inv A x y M pl → s1_feed pl x y (((Int32.toInt64 (xs (Int32.toNatClampNeg (i + 1)))) <<< (Int32.toInt64 32 &&& 63)) ||| ((Int32.toInt64 (xs (Int32.toNatClampNeg (i + 2)))) &&& 4294967295)) (((Int32.toInt64 (xs (Int32.toNatClampNeg (i + 3)))) <<< (Int32.toInt64 32 &&& 63)) ||| ((Int32.toInt64 (xs (Int32.toNatClampNeg (i + 4)))) &&& 4294967295)) (((Int32.toInt64 (xs (Int32.toNatClampNeg (i + 5)))) <<< (Int32.toInt64 32 &&& 63)) ||| ((Int32.toInt64 (xs (Int32.toNatClampNeg (i + 6)))) &&& 4294967295)) (fun x y => Inv A x y M pl))
    (h_town : ∀ (i : Int32) A x y M pl, Inv A x y M pl → s1_town A x y pl (fun A1 x y pl1 => Inv A1 x y M pl1))
    (h_square : ∀ (i : Int32) A x y M pl, Inv A x y M pl → s1_square pl x y (xs (Int32.toNatClampNeg (i + 1))) (xs (Int32.toNatClampNeg (i + 2))) (fun x y => Inv A x y M pl))
    (h_shade : ∀ (i : Int32) A x y M pl, Inv A x y M pl → s1_shade pl x y (xs (Int32.toNatClampNeg (i + 1))) (xs (Int32.toNatClampNeg (i + 2))) (xs (Int32.toNatClampNeg (i + 3))) (fun x y => Inv A x y M pl))
    (h_when : ∀ (i : Int32) A x y M pl, Inv A x y M pl → s1_when pl x y (xs (Int32.toNatClampNeg (i + 1))) (xs (Int32.toNatClampNeg (i + 2))) (xs (Int32.toNatClampNeg (i + 3))) (bz (xs (Int32.toNatClampNeg (i + 4)))) (fun x y => Inv A x y M pl))
    (h_dim : ∀ (i : Int32) A x y M pl, Inv A x y M pl → s1_dim pl x y (xs (Int32.toNatClampNeg (i + 1))) (xs (Int32.toNatClampNeg (i + 2))) (fun x y => Inv A x y M pl))
    (h_shutAt : ∀ (i : Int32) A x y M pl, Inv A x y M pl → s1_shutAt pl x y (xs (Int32.toNatClampNeg (i + 1))) (xs (Int32.toNatClampNeg (i + 2))) (xs (Int32.toNatClampNeg (i + 3))) (fun x y => Inv A x y M pl))
    (h_least : ∀ (i : Int32) A x y M pl, Inv A x y M pl → s1_least pl x y (xs (Int32.toNatClampNeg (i + 1))) (xs (Int32.toNatClampNeg (i + 2))) (xs (Int32.toNatClampNeg (i + 3))) (xs (Int32.toNatClampNeg (i + 4))) (xs (Int32.toNatClampNeg (i + 5))) (xs (Int32.toNatClampNeg (i + 6))) (fun x y => Inv A x y M pl))
    (h_piece : ∀ (i : Int32) A x y M pl, Inv A x y M pl → s1_piece pl x y (xs (Int32.toNatClampNeg (i + 1))) (xs (Int32.toNatClampNeg (i + 2))) (xs (Int32.toNatClampNeg (i + 3))) (xs (Int32.toNatClampNeg (i + 4))) (xs (Int32.toNatClampNeg (i + 5))) (xs (Int32.toNatClampNeg (i + 6))) (fun x y => Inv A x y M pl))
    (h_soon : ∀ (i : Int32) A x y M pl, Inv A x y M pl → s1_soon pl x y (xs (Int32.toNatClampNeg (i + 1))) (xs (Int32.toNatClampNeg (i + 2))) (xs (Int32.toNatClampNeg (i + 3))) (xs (Int32.toNatClampNeg (i + 4))) (xs (Int32.toNatClampNeg (i + 5))) (xs (Int32.toNatClampNeg (i + 6))) (fun x y => Inv A x y M pl))
    (h_both : ∀ (i : Int32) A x y M pl, Inv A x y M pl → s1_both pl x y (xs (Int32.toNatClampNeg (i + 1))) (xs (Int32.toNatClampNeg (i + 2))) (xs (Int32.toNatClampNeg (i + 3))) (xs (Int32.toNatClampNeg (i + 4))) (xs (Int32.toNatClampNeg (i + 5))) (xs (Int32.toNatClampNeg (i + 6))) (xs (Int32.toNatClampNeg (i + 7))) (fun x y => Inv A x y M pl))
    (h_bears : ∀ (i : Int32) A x y M pl, Inv A x y M pl → s1_bears pl x y (xs (Int32.toNatClampNeg (i + 1))) (xs (Int32.toNatClampNeg (i + 2))) (xs (Int32.toNatClampNeg (i + 3))) (xs (Int32.toNatClampNeg (i + 4))) (xs (Int32.toNatClampNeg (i + 5))) (fun x y => Inv A x y M pl))
    (h_hours : ∀ (i : Int32) A x y M pl, Inv A x y M pl → s1_hours pl x y (xs (Int32.toNatClampNeg (i + 1))) (xs (Int32.toNatClampNeg (i + 2))) (xs (Int32.toNatClampNeg (i + 3))) (xs (Int32.toNatClampNeg (i + 4))) (fun x y => Inv A x y M pl))
    (h_ice : ∀ (i : Int32) A x y M pl, Inv A x y M pl → s1_ice pl x y (xs (Int32.toNatClampNeg (i + 1))) (xs (Int32.toNatClampNeg (i + 2))) (xs (Int32.toNatClampNeg (i + 3))) (xs (Int32.toNatClampNeg (i + 4))) (xs (Int32.toNatClampNeg (i + 5))) (fun x y => Inv A x y M pl))
    (h_pays : ∀ (i : Int32) A x y M pl, Inv A x y M pl → s1_pays pl x y (xs (Int32.toNatClampNeg (i + 1))) (xs (Int32.toNatClampNeg (i + 2))) (xs (Int32.toNatClampNeg (i + 3))) (xs (Int32.toNatClampNeg (i + 4))) (xs (Int32.toNatClampNeg (i + 5))) (fun x y => Inv A x y M pl))
    (h_guessed : ∀ (i : Int32) A x y M pl, Inv A x y M pl → s1_guessed pl x y (xs (Int32.toNatClampNeg (i + 1))) (xs (Int32.toNatClampNeg (i + 2))) (xs (Int32.toNatClampNeg (i + 3))) (xs (Int32.toNatClampNeg (i + 4))) (xs (Int32.toNatClampNeg (i + 5))) (xs (Int32.toNatClampNeg (i + 6))) (xs (Int32.toNatClampNeg (i + 7))) (xs (Int32.toNatClampNeg (i + 8))) (fun x y => Inv A x y M pl))
    (h_crowd : ∀ (i : Int32) A x y M pl, Inv A x y M pl → s1_crowd pl x y (xs (Int32.toNatClampNeg (i + 1))) (xs (Int32.toNatClampNeg (i + 2))) (xs (Int32.toNatClampNeg (i + 3))) (xs (Int32.toNatClampNeg (i + 4))) (xs (Int32.toNatClampNeg (i + 5))) (xs (Int32.toNatClampNeg (i + 6))) (xs (Int32.toNatClampNeg (i + 7))) (xs (Int32.toNatClampNeg (i + 8))) (xs (Int32.toNatClampNeg (i + 9))) (fun x y => Inv A x y M pl))
    (h_plant : ∀ (i : Int32) A x y M pl, Inv A x y M pl → s1_plant pl x y (xs (Int32.toNatClampNeg (i + 1))) (xs (Int32.toNatClampNeg (i + 2))) (xs (Int32.toNatClampNeg (i + 3))) (xs (Int32.toNatClampNeg (i + 4))) (xs (Int32.toNatClampNeg (i + 5))) (xs (Int32.toNatClampNeg (i + 6))) (xs (Int32.toNatClampNeg (i + 7))) (fun x y => Inv A x y M pl))
    (h_spot : ∀ (i : Int32) A x y M pl, Inv A x y M pl → s1_spot pl x y (xs (Int32.toNatClampNeg (i + 1))) (fun x y => Inv A x y M pl))
    (h_spots : ∀ (i : Int32) A x y M pl, Inv A x y M pl → s1_spots pl x y (xs (Int32.toNatClampNeg (i + 1))) (xs (Int32.toNatClampNeg (i + 2))) (xs (Int32.toNatClampNeg (i + 3))) (xs (Int32.toNatClampNeg (i + 4))) (xs (Int32.toNatClampNeg (i + 5))) (xs (Int32.toNatClampNeg (i + 6))) (xs (Int32.toNatClampNeg (i + 7))) (xs (Int32.toNatClampNeg (i + 8))) (fun x y => Inv A x y M pl))
    (h_pull : ∀ (i : Int32) A x y M pl, Inv A x y M pl → s1_pull pl x y (xs (Int32.toNatClampNeg (i + 1))) (fun x y => Inv A x y M pl))
    (h_dark : ∀ (i : Int32) A x y M pl, Inv A x y M pl → s1_dark pl x y (xs (Int32.toNatClampNeg (i + 1))) (xs (Int32.toNatClampNeg (i + 2))) (xs (Int32.toNatClampNeg (i + 3))) (xs (Int32.toNatClampNeg (i + 4))) (xs (Int32.toNatClampNeg (i + 5))) (fun x y => Inv A x y M pl))
    (h_follow : ∀ (i : Int32) A x y M pl, Inv A x y M pl → s1_follow pl x y (xs (Int32.toNatClampNeg (i + 1))) (fun x y => Inv A x y M pl))
    (h_parade : ∀ (i : Int32) A x y M pl, Inv A x y M pl → s1_parade pl x y (xs (Int32.toNatClampNeg (i + 1))) (xs (Int32.toNatClampNeg (i + 2))) (xs (Int32.toNatClampNeg (i + 3))) (fun x y => Inv A x y M pl))
    (h_start : ∀ (i : Int32) A x y M pl, Inv A x y M pl → s1_start pl x y (xs (Int32.toNatClampNeg (i + 1))) (xs (Int32.toNatClampNeg (i + 2))) (xs (Int32.toNatClampNeg (i + 3))) (xs (Int32.toNatClampNeg (i + 4))) (fun x y => Inv A x y M pl))
    (h_tell : ∀ (i : Int32) A x y M pl, Inv A x y M pl → s1_tell pl x y (xs (Int32.toNatClampNeg (i + 1))) (fun x y => Inv A x y M pl))
    (h_clear : ∀ (i : Int32) A x y M pl, Inv A x y M pl → s1_clear pl x y  (fun x y => Inv A x y M pl))
    (h_judged : ∀ (i : Int32) A x y M pl, Inv A x y M pl → s1_judged pl x y (xs (Int32.toNatClampNeg (i + 1))) (xs (Int32.toNatClampNeg (i + 2))) (xs (Int32.toNatClampNeg (i + 3))) (xs (Int32.toNatClampNeg (i + 4))) (xs (Int32.toNatClampNeg (i + 5))) (fun x y => Inv A x y M pl))
    (h_rests : ∀ (i : Int32) A x y M pl, Inv A x y M pl → s1_rests pl x y (xs (Int32.toNatClampNeg (i + 1))) (xs (Int32.toNatClampNeg (i + 2))) (xs (Int32.toNatClampNeg (i + 3))) (xs (Int32.toNatClampNeg (i + 4))) (xs (Int32.toNatClampNeg (i + 5))) (xs (Int32.toNatClampNeg (i + 6))) (fun x y => Inv A x y M pl))
    (h_leave : ∀ (i : Int32) A x y M pl, Inv A x y M pl → s1_leave pl x y (xs (Int32.toNatClampNeg (i + 1))) (xs (Int32.toNatClampNeg (i + 2))) (xs (Int32.toNatClampNeg (i + 3))) (xs (Int32.toNatClampNeg (i + 4))) (xs (Int32.toNatClampNeg (i + 5))) (xs (Int32.toNatClampNeg (i + 6))) (xs (Int32.toNatClampNeg (i + 7))) (fun x y => Inv A x y M pl))
    (h_errand : ∀ (i : Int32) A x y M pl, Inv A x y M pl → s1_errand pl x y (xs (Int32.toNatClampNeg (i + 1))) (xs (Int32.toNatClampNeg (i + 2))) (xs (Int32.toNatClampNeg (i + 3))) (xs (Int32.toNatClampNeg (i + 4))) (xs (Int32.toNatClampNeg (i + 5))) (xs (Int32.toNatClampNeg (i + 6))) (xs (Int32.toNatClampNeg (i + 7))) (fun x y => Inv A x y M pl))
    (h_meet : ∀ (i : Int32) A x y M pl, Inv A x y M pl → s1_meet pl x y (xs (Int32.toNatClampNeg (i + 1))) (xs (Int32.toNatClampNeg (i + 2))) (xs (Int32.toNatClampNeg (i + 3))) (xs (Int32.toNatClampNeg (i + 4))) (xs (Int32.toNatClampNeg (i + 5))) (xs (Int32.toNatClampNeg (i + 6))) (xs (Int32.toNatClampNeg (i + 7))) (fun x y => Inv A x y M pl))
    (h_cover : ∀ (i : Int32) A x y M pl, Inv A x y M pl → s1_cover pl x y (xs (Int32.toNatClampNeg (i + 1))) (xs (Int32.toNatClampNeg (i + 2))) (xs (Int32.toNatClampNeg (i + 3))) (xs (Int32.toNatClampNeg (i + 4))) (xs (Int32.toNatClampNeg (i + 5))) (xs (Int32.toNatClampNeg (i + 6))) (fun x y => Inv A x y M pl))
    (h_keeps : ∀ (i : Int32) A x y M pl, Inv A x y M pl → s1_keeps pl x y (xs (Int32.toNatClampNeg (i + 1))) (xs (Int32.toNatClampNeg (i + 2))) (xs (Int32.toNatClampNeg (i + 3))) (xs (Int32.toNatClampNeg (i + 4))) (xs (Int32.toNatClampNeg (i + 5))) (xs (Int32.toNatClampNeg (i + 6))) (fun x y => Inv A x y M pl))
    (h_broad : ∀ (i : Int32) A x y M pl, Inv A x y M pl → s1_broad pl x y (xs (Int32.toNatClampNeg (i + 1))) (xs (Int32.toNatClampNeg (i + 2))) (fun x y => Inv A x y M pl))
    (h_edges : ∀ (i : Int32) A x y M pl, Inv A x y M pl → s1_edges pl x y (xs (Int32.toNatClampNeg (i + 1))) (xs (Int32.toNatClampNeg (i + 2))) (bz (xs (Int32.toNatClampNeg (i + 3)))) (fun x y => Inv A x y M pl))
    (h_price : ∀ (i : Int32) A x y M pl, Inv A x y M pl → s1_price pl x y (xs (Int32.toNatClampNeg (i + 1))) (xs (Int32.toNatClampNeg (i + 2))) (xs (Int32.toNatClampNeg (i + 3))) (xs (Int32.toNatClampNeg (i + 4))) (xs (Int32.toNatClampNeg (i + 5))) (xs (Int32.toNatClampNeg (i + 6))) (xs (Int32.toNatClampNeg (i + 7))) (xs (Int32.toNatClampNeg (i + 8))) (fun x y => Inv A x y M pl))
    (h_mark : ∀ (i : Int32) A x y M pl, Inv A x y M pl → ∀ pl' : Pool, (∀ z ∈ pl, z ∈ pl') → s1_mark pl' x M y (xs (Int32.toNatClampNeg (i + 1))) (bz (xs (Int32.toNatClampNeg (i + 2)))) (fun x M y => Inv A x y M pl))
    (h_count : ∀ (i : Int32) A x y M pl, Inv A x y M pl → s1_count pl x y (xs (Int32.toNatClampNeg (i + 1))) (fun x y => Inv A x y M pl))
    (hret : ∀ k n A x y M f pl lo, k ≤ 601024 → n ≤ 7293033 → AW X 8 k n (WL (cxG X) A x B y M o f) pl 3329 lo [.int 1]) :
    ∀ (m : Nat) (i : Int32) (k n : Nat) A x y M f pl, (L : Int) < i.toInt + 10 * m + 10 → (0 ≤ i.toInt ∧ i.toInt ≤ 5120) → k + 1001 * m ≤ 601024 → n + 6006 * m ≤ 7293033 → Inv A x y M pl → AW X 8 k n (WL (cxG X) A x B y M o f) pl 23 [some (.ref b), some (.ref (A 0)), some (.ref (B 0)), some (.ref o), some (.int i), none, none, none] [] := by
  intro m
  induction m with
  | zero =>
    intro i k n A x y M f pl hm hi hk hn hI
    refine a_iload (pc := 23) (i := 4) C dL_law_23 rfl ?_
    refine a_aload_n (pc := 25) (i := 0) C dL_law_25 rfl rfl ?_
    refine a_slen (pc := 26) C dL_law_26 ?_
    refine a_bipush (pc := 27) (v := 10) C dL_law_27 rfl ?_
    refine a_isub (pc := 29) C dL_law_29 ?_
    refine a_icmp_gt (pc := 30) (tgt := 3328) C dL_law_30 (by decide) (fun _ => ?_) (fun c => absurd ?_ c)
    · refine a_iconst (pc := 3328) (v := 1) C dL_law_3328 rfl ?_
      exact hret _ _ _ _ _ _ _ _ _ (by omega) (by omega)
    · rw [Int32.lt_iff_toInt_lt, nI10 hL]
      omega
  | succ m ih =>
    intro i k n A x y M f pl hm hi hk hn hI
    refine a_iload (pc := 23) (i := 4) C dL_law_23 rfl ?_
    refine a_aload_n (pc := 25) (i := 0) C dL_law_25 rfl rfl ?_
    refine a_slen (pc := 26) C dL_law_26 ?_
    refine a_bipush (pc := 27) (v := 10) C dL_law_27 rfl ?_
    refine a_isub (pc := 29) C dL_law_29 ?_
    refine a_icmp_gt (pc := 30) (tgt := 3328) C dL_law_30 (by decide) (fun _ => ?_) (fun c => ?_)
    · refine a_iconst (pc := 3328) (v := 1) C dL_law_3328 rfl ?_
      exact hret _ _ _ _ _ _ _ _ _ (by omega) (by omega)
    rw [Int32.lt_iff_toInt_lt, nI10 hL] at c
    have hi2 : 0 ≤ i.toInt ∧ i.toInt + 10 ≤ L ∧ L ≤ 5120 := by omega
    have nxt : ∀ A1 x y M f pl, A1 0 = A 0 → Inv A1 x y M pl → AW X 8 (k + 1001) (n + 6006) (WL (cxG X) A1 x B y M o f) pl 3322 [some (.ref b), some (.ref (A 0)), some (.ref (B 0)), some (.ref o), some (.int i), none, none, none] [] := by
      intro A1 x y M f pl h0 hI
      refine a_iinc (pc := 3322) (i := 4) (v := 10) C dL_law_3322 rfl rfl (Nat.le_of_ble_eq_true rfl) rfl ?_
      refine a_goto (pc := 3325) (tgt := 23) C dL_law_3325 (by decide) ?_
      rw [← h0]
      exact ih (i + 10) (k + 1001) (n + 6006) A1 x y M f pl (by rw [i10 hi]; omega) (by rw [i10 hi]; omega) (by omega) (by omega) hI
    have hk' : k + 1001 ≤ 601024 := by omega
    have hn' : n + 6006 ≤ 7293033 := by omega
    refine a_aload_n (pc := 33) (i := 0) C dL_law_33 rfl rfl ?_
    refine a_iload (pc := 34) (i := 4) C dL_law_34 rfl ?_
    refine a_sld (pc := 36) C dL_law_36 (in_arg0 hi2) ?_
    refine a_bipush (pc := 37) (v := 63) C dL_law_37 rfl ?_
    refine a_iand (pc := 39) C dL_law_39 ?_
    generalize (xs i.toNatClampNeg &&& 63) = w
    by_cases c0 : w = 0
    · rw [c0]
      refine a_tableIn (pc := 40) (tgt := 212) C dL_law_40 (by decide) (by decide) rfl (by decide) ?_
      exact lc_feed C hk' hn' hi2 (h_feed i A x y M pl hI) (fun x y h => nxt A x y M f pl rfl h)
    by_cases c1 : w = 1
    · rw [c1]
      refine a_tableIn (pc := 40) (tgt := 359) C dL_law_40 (by decide) (by decide) rfl (by decide) ?_
      exact lc_town C hk' hn' hi2 (h_town i A x y M pl hI) (fun A1 x y pl h0 h => nxt A1 x y M f pl h0 h)
    by_cases c2 : w = 2
    · rw [c2]
      refine a_tableIn (pc := 40) (tgt := 372) C dL_law_40 (by decide) (by decide) rfl (by decide) ?_
      exact lc_square C hk' hn' hi2 (h_square i A x y M pl hI) (fun x y h => nxt A x y M f pl rfl h)
    by_cases c3 : w = 3
    · rw [c3]
      refine a_tableIn (pc := 40) (tgt := 409) C dL_law_40 (by decide) (by decide) rfl (by decide) ?_
      exact lc_shade C hk' hn' hi2 (h_shade i A x y M pl hI) (fun x y h => nxt A x y M f pl rfl h)
    by_cases c4 : w = 4
    · rw [c4]
      refine a_tableIn (pc := 40) (tgt := 458) C dL_law_40 (by decide) (by decide) rfl (by decide) ?_
      exact lc_when C hk' hn' hi2 (h_when i A x y M pl hI) (fun x y h => nxt A x y M f pl rfl h)
    by_cases c5 : w = 5
    · rw [c5]
      refine a_tableIn (pc := 40) (tgt := 535) C dL_law_40 (by decide) (by decide) rfl (by decide) ?_
      exact lc_dim C hk' hn' hi2 (h_dim i A x y M pl hI) (fun x y h => nxt A x y M f pl rfl h)
    by_cases c6 : w = 6
    · rw [c6]
      refine a_tableIn (pc := 40) (tgt := 572) C dL_law_40 (by decide) (by decide) rfl (by decide) ?_
      exact lc_shutAt C hk' hn' hi2 (h_shutAt i A x y M pl hI) (fun x y h => nxt A x y M f pl rfl h)
    by_cases c7 : w = 7
    · rw [c7]
      refine a_tableIn (pc := 40) (tgt := 621) C dL_law_40 (by decide) (by decide) rfl (by decide) ?_
      exact lc_least C hk' hn' hi2 hl0 (h_least i A x y M pl hI) (fun x y f h => nxt A x y M f pl rfl h)
    by_cases c8 : w = 8
    · rw [c8]
      refine a_tableIn (pc := 40) (tgt := 739) C dL_law_40 (by decide) (by decide) rfl (by decide) ?_
      exact lc_piece C hk' hn' hi2 (h_piece i A x y M pl hI) (fun x y h => nxt A x y M f pl rfl h)
    by_cases c9 : w = 9
    · rw [c9]
      refine a_tableIn (pc := 40) (tgt := 826) C dL_law_40 (by decide) (by decide) rfl (by decide) ?_
      exact lc_soon C hk' hn' hi2 (h_soon i A x y M pl hI) (fun x y h => nxt A x y M f pl rfl h)
    by_cases c10 : w = 10
    · rw [c10]
      refine a_tableIn (pc := 40) (tgt := 913) C dL_law_40 (by decide) (by decide) rfl (by decide) ?_
      exact lc_both C hk' hn' hi2 (h_both i A x y M pl hI) (fun x y h => nxt A x y M f pl rfl h)
    by_cases c11 : w = 11
    · rw [c11]
      refine a_tableIn (pc := 40) (tgt := 1014) C dL_law_40 (by decide) (by decide) rfl (by decide) ?_
      exact lc_bears C hk' hn' hi2 (h_bears i A x y M pl hI) (fun x y h => nxt A x y M f pl rfl h)
    by_cases c12 : w = 12
    · rw [c12]
      refine a_tableIn (pc := 40) (tgt := 1087) C dL_law_40 (by decide) (by decide) rfl (by decide) ?_
      exact lc_hours C hk' hn' hi2 (h_hours i A x y M pl hI) (fun x y h => nxt A x y M f pl rfl h)
    by_cases c13 : w = 13
    · rw [c13]
      refine a_tableIn (pc := 40) (tgt := 1148) C dL_law_40 (by decide) (by decide) rfl (by decide) ?_
      exact lc_ice C hk' hn' hi2 (h_ice i A x y M pl hI) (fun x y h => nxt A x y M f pl rfl h)
    by_cases c14 : w = 14
    · rw [c14]
      refine a_tableIn (pc := 40) (tgt := 1221) C dL_law_40 (by decide) (by decide) rfl (by decide) ?_
      exact lc_pays C hk' hn' hi2 (h_pays i A x y M pl hI) (fun x y h => nxt A x y M f pl rfl h)
    by_cases c15 : w = 15
    · rw [c15]
      refine a_tableIn (pc := 40) (tgt := 1294) C dL_law_40 (by decide) (by decide) rfl (by decide) ?_
      exact lc_guessed C hk' hn' hi2 hl0 (h_guessed i A x y M pl hI) (fun x y f h => nxt A x y M f pl rfl h)
    by_cases c16 : w = 16
    · rw [c16]
      refine a_tableIn (pc := 40) (tgt := 1439) C dL_law_40 (by decide) (by decide) rfl (by decide) ?_
      exact lc_crowd C hk' hn' hi2 hl0 (h_crowd i A x y M pl hI) (fun x y f h => nxt A x y M f pl rfl h)
    by_cases c17 : w = 17
    · rw [c17]
      refine a_tableIn (pc := 40) (tgt := 1599) C dL_law_40 (by decide) (by decide) rfl (by decide) ?_
      exact lc_plant C hk' hn' hi2 hl0 (h_plant i A x y M pl hI) (fun x y f h => nxt A x y M f pl rfl h)
    by_cases c18 : w = 18
    · rw [c18]
      refine a_tableIn (pc := 40) (tgt := 1731) C dL_law_40 (by decide) (by decide) rfl (by decide) ?_
      exact lc_spot C hk' hn' hi2 (h_spot i A x y M pl hI) (fun x y h => nxt A x y M f pl rfl h)
    by_cases c19 : w = 19
    · rw [c19]
      refine a_tableIn (pc := 40) (tgt := 1756) C dL_law_40 (by decide) (by decide) rfl (by decide) ?_
      exact lc_spots C hk' hn' hi2 hl0 (h_spots i A x y M pl hI) (fun x y f h => nxt A x y M f pl rfl h)
    by_cases c20 : w = 20
    · rw [c20]
      refine a_tableIn (pc := 40) (tgt := 1902) C dL_law_40 (by decide) (by decide) rfl (by decide) ?_
      exact lc_pull C hk' hn' hi2 (h_pull i A x y M pl hI) (fun x y h => nxt A x y M f pl rfl h)
    by_cases c21 : w = 21
    · rw [c21]
      refine a_tableIn (pc := 40) (tgt := 1927) C dL_law_40 (by decide) (by decide) rfl (by decide) ?_
      exact lc_dark C hk' hn' hi2 (h_dark i A x y M pl hI) (fun x y h => nxt A x y M f pl rfl h)
    by_cases c22 : w = 22
    · rw [c22]
      refine a_tableIn (pc := 40) (tgt := 2000) C dL_law_40 (by decide) (by decide) rfl (by decide) ?_
      exact lc_follow C hk' hn' hi2 (h_follow i A x y M pl hI) (fun x y h => nxt A x y M f pl rfl h)
    by_cases c23 : w = 23
    · rw [c23]
      refine a_tableIn (pc := 40) (tgt := 2025) C dL_law_40 (by decide) (by decide) rfl (by decide) ?_
      exact lc_parade C hk' hn' hi2 (h_parade i A x y M pl hI) (fun x y h => nxt A x y M f pl rfl h)
    by_cases c24 : w = 24
    · rw [c24]
      refine a_tableIn (pc := 40) (tgt := 2074) C dL_law_40 (by decide) (by decide) rfl (by decide) ?_
      exact lc_start C hk' hn' hi2 (h_start i A x y M pl hI) (fun x y h => nxt A x y M f pl rfl h)
    by_cases c25 : w = 25
    · rw [c25]
      refine a_tableIn (pc := 40) (tgt := 2135) C dL_law_40 (by decide) (by decide) rfl (by decide) ?_
      exact lc_tell C hk' hn' hi2 (h_tell i A x y M pl hI) (fun x y h => nxt A x y M f pl rfl h)
    by_cases c26 : w = 26
    · rw [c26]
      refine a_tableIn (pc := 40) (tgt := 2160) C dL_law_40 (by decide) (by decide) rfl (by decide) ?_
      exact lc_clear C hk' hn' hi2 (h_clear i A x y M pl hI) (fun x y h => nxt A x y M f pl rfl h)
    by_cases c27 : w = 27
    · rw [c27]
      refine a_tableIn (pc := 40) (tgt := 2173) C dL_law_40 (by decide) (by decide) rfl (by decide) ?_
      exact lc_judged C hk' hn' hi2 hl0 (h_judged i A x y M pl hI) (fun x y f h => nxt A x y M f pl rfl h)
    by_cases c28 : w = 28
    · rw [c28]
      refine a_tableIn (pc := 40) (tgt := 2277) C dL_law_40 (by decide) (by decide) rfl (by decide) ?_
      exact lc_rests C hk' hn' hi2 hl0 (h_rests i A x y M pl hI) (fun x y f h => nxt A x y M f pl rfl h)
    by_cases c29 : w = 29
    · rw [c29]
      refine a_tableIn (pc := 40) (tgt := 2395) C dL_law_40 (by decide) (by decide) rfl (by decide) ?_
      exact lc_leave C hk' hn' hi2 (h_leave i A x y M pl hI) (fun x y h => nxt A x y M f pl rfl h)
    by_cases c30 : w = 30
    · rw [c30]
      refine a_tableIn (pc := 40) (tgt := 2496) C dL_law_40 (by decide) (by decide) rfl (by decide) ?_
      exact lc_errand C hk' hn' hi2 hl0 (h_errand i A x y M pl hI) (fun x y f h => nxt A x y M f pl rfl h)
    by_cases c31 : w = 31
    · rw [c31]
      refine a_tableIn (pc := 40) (tgt := 2628) C dL_law_40 (by decide) (by decide) rfl (by decide) ?_
      exact lc_meet C hk' hn' hi2 hl0 (h_meet i A x y M pl hI) (fun x y f h => nxt A x y M f pl rfl h)
    by_cases c32 : w = 32
    · rw [c32]
      refine a_tableIn (pc := 40) (tgt := 2760) C dL_law_40 (by decide) (by decide) rfl (by decide) ?_
      exact lc_cover C hk' hn' hi2 hl0 (h_cover i A x y M pl hI) (fun x y f h => nxt A x y M f pl rfl h)
    by_cases c33 : w = 33
    · rw [c33]
      refine a_tableIn (pc := 40) (tgt := 2878) C dL_law_40 (by decide) (by decide) rfl (by decide) ?_
      exact lc_keeps C hk' hn' hi2 hl0 (h_keeps i A x y M pl hI) (fun x y f h => nxt A x y M f pl rfl h)
    by_cases c34 : w = 34
    · rw [c34]
      refine a_tableIn (pc := 40) (tgt := 2996) C dL_law_40 (by decide) (by decide) rfl (by decide) ?_
      exact lc_broad C hk' hn' hi2 (h_broad i A x y M pl hI) (fun x y h => nxt A x y M f pl rfl h)
    by_cases c35 : w = 35
    · rw [c35]
      refine a_tableIn (pc := 40) (tgt := 3033) C dL_law_40 (by decide) (by decide) rfl (by decide) ?_
      exact lc_edges C hk' hn' hi2 (h_edges i A x y M pl hI) (fun x y h => nxt A x y M f pl rfl h)
    by_cases c36 : w = 36
    · rw [c36]
      refine a_tableIn (pc := 40) (tgt := 3098) C dL_law_40 (by decide) (by decide) rfl (by decide) ?_
      exact lc_price C hk' hn' hi2 hl0 (h_price i A x y M pl hI) (fun x y f h => nxt A x y M f pl rfl h)
    by_cases c37 : w = 37
    · rw [c37]
      refine a_tableIn (pc := 40) (tgt := 3244) C dL_law_40 (by decide) (by decide) rfl (by decide) ?_
      exact lc_mark C hk' hn' hi2 (hMk A x y M pl hI) (h_mark i A x y M pl hI) (fun x M y h => nxt A x y M f pl rfl h)
    by_cases c38 : w = 38
    · rw [c38]
      refine a_tableIn (pc := 40) (tgt := 3297) C dL_law_40 (by decide) (by decide) rfl (by decide) ?_
      exact lc_count C hk' hn' hi2 (h_count i A x y M pl hI) (fun x y h => nxt A x y M f pl rfl h)
    refine a_tableOut (pc := 40) (tgt := 3322) C dL_law_40 ?_ (by decide) ?_
    · have hne : ∀ j : Int32, w ≠ j → w.toInt ≠ j.toInt := fun j h e => h (Int32.toInt_inj.mp e)
      have n0 := hne 0 c0
      have n1 := hne 1 c1
      have n2 := hne 2 c2
      have n3 := hne 3 c3
      have n4 := hne 4 c4
      have n5 := hne 5 c5
      have n6 := hne 6 c6
      have n7 := hne 7 c7
      have n8 := hne 8 c8
      have n9 := hne 9 c9
      have n10 := hne 10 c10
      have n11 := hne 11 c11
      have n12 := hne 12 c12
      have n13 := hne 13 c13
      have n14 := hne 14 c14
      have n15 := hne 15 c15
      have n16 := hne 16 c16
      have n17 := hne 17 c17
      have n18 := hne 18 c18
      have n19 := hne 19 c19
      have n20 := hne 20 c20
      have n21 := hne 21 c21
      have n22 := hne 22 c22
      have n23 := hne 23 c23
      have n24 := hne 24 c24
      have n25 := hne 25 c25
      have n26 := hne 26 c26
      have n27 := hne 27 c27
      have n28 := hne 28 c28
      have n29 := hne 29 c29
      have n30 := hne 30 c30
      have n31 := hne 31 c31
      have n32 := hne 32 c32
      have n33 := hne 33 c33
      have n34 := hne 34 c34
      have n35 := hne 35 c35
      have n36 := hne 36 c36
      have n37 := hne 37 c37
      have n38 := hne 38 c38
      simp only [show (0 : Int32).toInt = 0 from rfl, show (1 : Int32).toInt = 1 from rfl, show (2 : Int32).toInt = 2 from rfl, show (3 : Int32).toInt = 3 from rfl, show (4 : Int32).toInt = 4 from rfl, show (5 : Int32).toInt = 5 from rfl, show (6 : Int32).toInt = 6 from rfl, show (7 : Int32).toInt = 7 from rfl, show (8 : Int32).toInt = 8 from rfl, show (9 : Int32).toInt = 9 from rfl, show (10 : Int32).toInt = 10 from rfl, show (11 : Int32).toInt = 11 from rfl, show (12 : Int32).toInt = 12 from rfl, show (13 : Int32).toInt = 13 from rfl, show (14 : Int32).toInt = 14 from rfl, show (15 : Int32).toInt = 15 from rfl, show (16 : Int32).toInt = 16 from rfl, show (17 : Int32).toInt = 17 from rfl, show (18 : Int32).toInt = 18 from rfl, show (19 : Int32).toInt = 19 from rfl, show (20 : Int32).toInt = 20 from rfl, show (21 : Int32).toInt = 21 from rfl, show (22 : Int32).toInt = 22 from rfl, show (23 : Int32).toInt = 23 from rfl, show (24 : Int32).toInt = 24 from rfl, show (25 : Int32).toInt = 25 from rfl, show (26 : Int32).toInt = 26 from rfl, show (27 : Int32).toInt = 27 from rfl, show (28 : Int32).toInt = 28 from rfl, show (29 : Int32).toInt = 29 from rfl, show (30 : Int32).toInt = 30 from rfl, show (31 : Int32).toInt = 31 from rfl, show (32 : Int32).toInt = 32 from rfl, show (33 : Int32).toInt = 33 from rfl, show (34 : Int32).toInt = 34 from rfl, show (35 : Int32).toInt = 35 from rfl, show (36 : Int32).toInt = 36 from rfl, show (37 : Int32).toInt = 37 from rfl, show (38 : Int32).toInt = 38 from rfl] at n0 n1 n2 n3 n4 n5 n6 n7 n8 n9 n10 n11 n12 n13 n14 n15 n16 n17 n18 n19 n20 n21 n22 n23 n24 n25 n26 n27 n28 n29 n30 n31 n32 n33 n34 n35 n36 n37 n38
      omega
    · exact a_widen (by omega) (by omega) (nxt A x y M f pl rfl hI)
