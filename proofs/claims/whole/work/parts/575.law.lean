/-! THE LAW: its beginning -/
theorem nk_L_8 : NewOk RL 8 11 [.null, .null, .null, .null, .null, .null, .null, .null] 8 := ⟨RX11, TX11, tyX11, rfl, uw_X11, tyX11_ok, tcl_L_8, tit_X11, tin_X11, by decide +kernel⟩
theorem nk_L_54 : NewOk RL 54 12 [.int 0, .null, .int 0, .int 0, .null, .null, .null, .int 0, .int 0, .null, .null, .null, .null, .int 0, .null, .null, .int 0, .null, .null, .null, .null, .null, .null, .null, .int 0, .null, .null, .null, .null, .null, .int 0, .int 0, .int 0, .int 0, .null, .int 0, .null, .int 0, .null, .null, .null, .null, .null] 43 := ⟨RX12, TX12, tyX12, rfl, uw_X12, tyX12_ok, tcl_L_54, tit_X12, tin_X12, by decide +kernel⟩
def A11 (q : Nat) (u : Nat → Nat) : Nat → Nat := fun i => cond (Nat.beq i 0) q (cond (Nat.ble i 73) (u (i - 1)) (u i))
def x0 (w : Nat) (v : Value) (b0 : Nat → Int64) (b1 : Nat → Int64) (b2 : Nat → Int32) (b3 : Nat → Int32) (b4 : Nat → Int64) (b5 : Nat → Int64) : XS := ((fun _ => 0), (u1 (u1 (fun _ _ => 0) 17 b3) 18 b2), (u1 (u1 (u1 (u1 (fun _ _ => 0) 6 b5) 7 b4) 8 b0) 9 b1), (fun _ _ => none), w, false, v)
def y0 : YS := ((u1 (fun _ => 0) 6 (-1)), (fun _ _ => 0), (u1 (fun _ _ => 0) 1 wd_30))
set_option maxRecDepth 20000 in
set_option maxHeartbeats 4000000 in
theorem lw_begin {X : Ctx} {ka : KA} {b L : Nat} {xs : Nat → Int32} (C : Cok X cL_law 8 RL room_1 (FzL ka b L xs)) {post : (Nat → Int64) → (Nat → Int64) → (Nat → Int32) → (Nat → Int32) → (Nat → Int64) → (Nat → Int64) → Prop} (hw : ∀ pl, wp_X6_build pl 0 (fun _ => 0) (fun _ => none) (fun _ => 0) (fun _ => 0) (fun _ => 0) (fun _ => 0) (fun _ => 0) (fun _ => 0) (fun _ => 0) (fun _ => 0) post)
    (kk : ∀ (A B : Nat → Nat) (o w : Nat) (v : Value) b0 b1 b2 b3 b4 b5, post b0 b1 b2 b3 b4 b5 → AW X 8 114 159014 (WL (cxG X) A (x0 w v b0 b1 b2 b3 b4 b5) B y0 (fun _ => none) o (fun _ => 0)) [] 23 [some (.ref b), some (.ref (A 0)), some (.ref (B 0)), some (.ref o), some (.int 0), none, none, none] []) : AW X 8 0 0 [] [] 0 [some (.ref b), none, none, none, none, none, none, none] [] := by
  refine a_new (pc := 0) C nk_L_8 dL_law_0 (Nat.le_of_ble_eq_true rfl) (Nat.le_of_ble_eq_true rfl) (fun q => [(q, ob 11 [.null, .null, .null, .null, .null, .null, .null, .null])]) (fun _ => rfl) (fun q => ?_)
  refine a_dup (pc := 3) C dL_law_3 rfl ?_
  refine a_xIv (pc := 4) (As := []) (st := [.ref q]) C (c_X11_init (ka := ka) q hw) dL_law_4 mth_X11_init tml_L_53 (fun _ _ h => h.1) (FzW_ok ka) ⟨rfl, rfl, (Nat.le_of_ble_eq_true rfl), (Nat.le_of_ble_eq_true rfl), (Nat.le_of_ble_eq_true rfl), (Nat.le_of_ble_eq_true rfl)⟩ (Nat.le_of_ble_eq_true rfl) rfl rfl (m := 82) (fun _ => rfl) (fun u hp => ?_)
  show AW X 8 83 50778 (w11 (cxG X) (A11 q u.1) (x0 (u.1 73) (.ref (u.1 17)) u.2.1 u.2.2.1 u.2.2.2.1 u.2.2.2.2.1 u.2.2.2.2.2.1 u.2.2.2.2.2.2)) [] 7 [some (.ref b), none, none, none, none, none, none, none] [.ref (A11 q u.1 0)]
  generalize A11 q u.1 = A
  generalize u.1 73 = w
  generalize Value.ref (u.1 17) = v
  obtain ⟨uu, b0, b1, b2, b3, b4, b5⟩ := u
  dsimp only at hp ⊢
  refine a_astore_n (pc := 7) (i := 1) C dL_law_7 rfl (Nat.le_of_ble_eq_true rfl) rfl ?_
  show AW X 8 83 50778 (w11 (cxG X) A (x0 w v b0 b1 b2 b3 b4 b5)) [] 8 [some (.ref b), some (.ref (A 0)), none, none, none, none, none, none] []
  refine a_new (pc := 8) C nk_L_54 dL_law_8 (Nat.le_of_ble_eq_true rfl) (Nat.le_of_ble_eq_true rfl) (fun q => w11 (cxG X) A (x0 w v b0 b1 b2 b3 b4 b5) ++ [(q, ob 12 [.int 0, .null, .int 0, .int 0, .null, .null, .null, .int 0, .int 0, .null, .null, .null, .null, .int 0, .null, .null, .int 0, .null, .null, .null, .null, .null, .null, .null, .int 0, .null, .null, .null, .null, .null, .int 0, .int 0, .int 0, .int 0, .null, .int 0, .null, .int 0, .null, .null, .null, .null, .null])]) (fun _ => rfl) (fun q2 => ?_)
  refine a_dup (pc := 11) C dL_law_11 rfl ?_
  refine a_mkI (R := w11 (cxG X) A (x0 w v b0 b1 b2 b3 b4 b5)) ?_
  refine a_xIv (pc := 12) (As := []) (st := [.ref q2]) C (c_X12_init (ka := ka) q2) dL_law_12 mth_X12_init tml_L_56 (fun _ _ h => h.1) (FzW_ok ka) ⟨rfl, rfl, (Nat.le_of_ble_eq_true rfl), (Nat.le_of_ble_eq_true rfl), (Nat.le_of_ble_eq_true rfl), (Nat.le_of_ble_eq_true rfl)⟩ (Nat.le_of_ble_eq_true rfl) rfl rfl (m := 30) (fun _ => rfl) (fun u2 _ => ?_)
  show AW X 8 113 159013 (w12 (cxG X) (cs q2 u2) y0) (w11 (cxG X) A (x0 w v b0 b1 b2 b3 b4 b5) ++ []) 15 [some (.ref b), some (.ref (A 0)), none, none, none, none, none, none] [.ref (cs q2 u2 0)]
  generalize cs q2 u2 = B
  refine a_mkO ?_
  refine a_astore_n (pc := 15) (i := 2) C dL_law_15 rfl (Nat.le_of_ble_eq_true rfl) rfl ?_
  show AW X 8 113 159013 (w11 (cxG X) A (x0 w v b0 b1 b2 b3 b4 b5) ++ w12 (cxG X) B y0) [] 16 [some (.ref b), some (.ref (A 0)), some (.ref (B 0)), none, none, none, none, none] []
  refine a_iconst (pc := 16) (v := 1) C dL_law_16 rfl ?_
  refine a_newaJ (pc := 17) (N := 1) C (by decide) (by decide) (Nat.le_of_ble_eq_true rfl) tar_long dL_law_17 (Nat.le_of_ble_eq_true rfl) (Nat.le_of_ble_eq_true rfl) (fun o => WL (cxG X) A (x0 w v b0 b1 b2 b3 b4 b5) B y0 (fun _ => none) o (fun _ => 0)) (fun o => by rw [List.append_assoc]; rfl) (fun o => ?_)
  refine a_astore_n (pc := 19) (i := 3) C dL_law_19 rfl (Nat.le_of_ble_eq_true rfl) rfl ?_
  refine a_iconst (pc := 20) (v := 0) C dL_law_20 rfl ?_
  refine a_istore (pc := 21) (i := 4) C dL_law_21 (Nat.le_of_ble_eq_true rfl) rfl ?_
  exact kk A B o w v b0 b1 b2 b3 b4 b5 hp
