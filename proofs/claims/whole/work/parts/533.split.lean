/-! SPLITS: the cells of a call ahead, all others in the pool -/
theorem pick_cons (x : Nat × va_E) (ws : va_W) (is : List Nat) : pick (x :: ws) (is.map (· + 1)) = pick ws is := by
  simp only [pick, List.filterMap_map]
  rfl
theorem pick_range : ∀ ws : va_W, pick ws (List.range ws.length) = ws
  | [] => rfl
  | x :: ws => by
    rw [List.length_cons, List.range_succ_eq_map, show (List.map Nat.succ (List.range ws.length)) = (List.range ws.length).map (· + 1) from rfl]
    show (([0] ++ (List.range ws.length).map (· + 1)).filterMap (fun i => (x :: ws)[i]?)) = x :: ws
    rw [List.filterMap_append]
    show [x] ++ pick (x :: ws) ((List.range ws.length).map (· + 1)) = x :: ws
    rw [pick_cons, pick_range ws]
    rfl
theorem pick_perm {ws : va_W} {is : List Nat} (h : is.Perm (List.range ws.length)) : (pick ws is).Perm ws := by
  have := h.filterMap (fun i => ws[i]?)
  rw [show (List.range ws.length).filterMap (fun i => ws[i]?) = ws from pick_range ws] at this
  exact this
theorem inB_range (ws : va_W) : inB ws (List.range ws.length) = true := by
  simp [inB]
section SP
variable {X : Ctx} {cc : ByteArray} {nL k n : Nat} {own : String} {rm : Room} {Fz : (Nat → Prop) → State → Prop} {ws : va_W} {pl : Pool} {lo : List (Option Value)} {st : List Value} {pc : Nat}
theorem a_split (is : List Nat) {m : Nat} (hp : is.isPerm (List.range m) = true) (hm : ws.length = m) {wc rest : va_W} (he : pick ws is = wc ++ rest) (kk : AW X nL k n wc (rest ++ pl) pc lo st) : AW X nL k n ws pl pc lo st := by
  have h := (pick_perm (List.isPerm_iff.mp (hm ▸ hp))).symm
  rw [he] at h
  refine a_perm ?_ kk
  rw [← List.append_assoc]
  exact List.Perm.append_right pl h
theorem a_join (is : List Nat) {wc rest ws' : va_W} {m : Nat} (hp : is.isPerm (List.range m) = true) (hm : (wc ++ rest).length = m) (he : pick (wc ++ rest) is = ws') (kk : AW X nL k n ws' pl pc lo st) : AW X nL k n wc (rest ++ pl) pc lo st := by
  have h := (pick_perm (List.isPerm_iff.mp (hm ▸ hp))).symm
  rw [he] at h
  refine a_perm ?_ kk
  rw [← List.append_assoc]
  exact List.Perm.append_right pl h
theorem a_mkI {R : va_W} {x : Nat × va_E} (kk : AW X nL k n [x] (R ++ pl) pc lo st) : AW X nL k n (R ++ [x]) pl pc lo st := by
  refine a_perm ?_ kk
  rw [← List.append_assoc]
  exact List.Perm.append_right pl List.perm_append_comm
theorem a_mkO {R Wn : va_W} (kk : AW X nL k n (R ++ Wn) pl pc lo st) : AW X nL k n Wn (R ++ pl) pc lo st := by
  refine a_perm ?_ kk
  rw [← List.append_assoc]
  exact List.Perm.append_right pl List.perm_append_comm
end SP
theorem va_nd_range : ∀ n, va_nd (List.range n) = true := by
  intro n
  have key : ∀ l : List Nat, l.Nodup → va_nd l = true := by
    intro l
    induction l with
    | nil => intro _; rfl
    | cons a l ih =>
      intro h
      have h2 := List.nodup_cons.mp h
      simp only [va_nd]
      simp [h2.1, ih h2.2]
  exact key _ List.nodup_range
theorem dsj_nil (b : List Nat) : dsj [] b = true := rfl
section XC
variable {X : Ctx} {cc : ByteArray} {nL k n : Nat} {own : String} {rm : Room} {Fz : (Nat → Prop) → State → Prop} {ws : va_W} {pl : Pool} {lo : List (Option Value)} {st : List Value} {pc : Nat}
variable {y : MethodName} {cy : ByteArray} {ny nA idx mc ms : Nat} {ry : Option FieldType} {rmy : Room} {Fz' : (Nat → Prop) → State → Prop} {As : List Value} {S : Type} {Wf : S → va_W} {Pf : S → Pool} {st0 : List Value} {b : Nat}
theorem a_xVi (C : Cok X cc nL own rm Fz) {post : Int32 → S → Prop} (hM : MI (cxL X) y cy ny ry rmy (cxG X) Fz' (.ref b :: As) ws pl post Wf Pf mc ms) (hd : decode cc pc = .ok (.invokevirtual idx, 3)) (hm : MthV y cy ny ry nA) (hlk : Cond.methodLink own idx y ∈ tb) (hFz : ∀ A U, Fz A U → Fz' A U) (hFo : FzOk Fz') (hrm : RmOk rmy rm ny mc ms k n) (hst : (st.map fun v => v.category).sum ≤ 8) (hlen : As.length = nA) (hs : As.reverse ++ .ref b :: st = st0) {ci : Nat} {T : u_T} {N : Nat} (hci : vwCl[ci]? = some (y.cls, T, N)) (hrec : ∃ (i : Nat) (fs : List Value), ws[i]? = some (b, .inr (ci, fs))) {m : Nat} (hm' : ∀ u, (Wf u).length = m) (kk : ∀ (r : Int32) (u : S), post r u → AW X nL (k + mc) (n + ms) (Wf u) (Pf u) (pc + 3) lo (.int r :: st)) : AW X nL k n ws pl pc lo st0 :=
  a_callVi (ws' := Wf) C hM hd hm hlk hFz hFo hrm hst hlen hs (List.range ws.length) [] (List.range m) (pick_range ws) (inB_range ws) rfl (va_nd_range _) rfl (dsj_nil _) hci (by obtain ⟨i, fs, h⟩ := hrec; exact ⟨i, fs, by rw [pick_range]; exact ap_l h⟩) (fun u => by rw [← hm' u]; exact inB_range _) (va_nd_range _) (fun u => by rw [← hm' u]; exact pick_range _) kk
theorem a_xVl (C : Cok X cc nL own rm Fz) {post : Int64 → S → Prop} (hM : ML (cxL X) y cy ny ry rmy (cxG X) Fz' (.ref b :: As) ws pl post Wf Pf mc ms) (hd : decode cc pc = .ok (.invokevirtual idx, 3)) (hm : MthV y cy ny ry nA) (hlk : Cond.methodLink own idx y ∈ tb) (hFz : ∀ A U, Fz A U → Fz' A U) (hFo : FzOk Fz') (hrm : RmOk rmy rm ny mc ms k n) (hst : (st.map fun v => v.category).sum ≤ 8) (hlen : As.length = nA) (hs : As.reverse ++ .ref b :: st = st0) {ci : Nat} {T : u_T} {N : Nat} (hci : vwCl[ci]? = some (y.cls, T, N)) (hrec : ∃ (i : Nat) (fs : List Value), ws[i]? = some (b, .inr (ci, fs))) {m : Nat} (hm' : ∀ u, (Wf u).length = m) (kk : ∀ (r : Int64) (u : S), post r u → AW X nL (k + mc) (n + ms) (Wf u) (Pf u) (pc + 3) lo (.long r :: st)) : AW X nL k n ws pl pc lo st0 :=
  a_callVl (ws' := Wf) C hM hd hm hlk hFz hFo hrm hst hlen hs (List.range ws.length) [] (List.range m) (pick_range ws) (inB_range ws) rfl (va_nd_range _) rfl (dsj_nil _) hci (by obtain ⟨i, fs, h⟩ := hrec; exact ⟨i, fs, by rw [pick_range]; exact ap_l h⟩) (fun u => by rw [← hm' u]; exact inB_range _) (va_nd_range _) (fun u => by rw [← hm' u]; exact pick_range _) kk
theorem a_xVv (C : Cok X cc nL own rm Fz) {post : S → Prop} (hM : MV (cxL X) y cy ny ry rmy (cxG X) Fz' (.ref b :: As) ws pl post Wf Pf mc ms) (hd : decode cc pc = .ok (.invokevirtual idx, 3)) (hm : MthV y cy ny ry nA) (hlk : Cond.methodLink own idx y ∈ tb) (hFz : ∀ A U, Fz A U → Fz' A U) (hFo : FzOk Fz') (hrm : RmOk rmy rm ny mc ms k n) (hst : (st.map fun v => v.category).sum ≤ 8) (hlen : As.length = nA) (hs : As.reverse ++ .ref b :: st = st0) {ci : Nat} {T : u_T} {N : Nat} (hci : vwCl[ci]? = some (y.cls, T, N)) (hrec : ∃ (i : Nat) (fs : List Value), ws[i]? = some (b, .inr (ci, fs))) {m : Nat} (hm' : ∀ u, (Wf u).length = m) (kk : ∀ (u : S), post u → AW X nL (k + mc) (n + ms) (Wf u) (Pf u) (pc + 3) lo (st)) : AW X nL k n ws pl pc lo st0 :=
  a_callVv (ws' := Wf) C hM hd hm hlk hFz hFo hrm hst hlen hs (List.range ws.length) [] (List.range m) (pick_range ws) (inB_range ws) rfl (va_nd_range _) rfl (dsj_nil _) hci (by obtain ⟨i, fs, h⟩ := hrec; exact ⟨i, fs, by rw [pick_range]; exact ap_l h⟩) (fun u => by rw [← hm' u]; exact inB_range _) (va_nd_range _) (fun u => by rw [← hm' u]; exact pick_range _) kk
theorem a_xIv (C : Cok X cc nL own rm Fz) {post : S → Prop} (hM : MV (cxL X) y cy ny none rmy (cxG X) Fz' (.ref b :: As) ws pl post Wf Pf mc ms) (hd : decode cc pc = .ok (.invokespecial idx, 3)) (hm : MthN y cy ny nA) (hlk : Cond.methodLink own idx y ∈ tb) (hFz : ∀ A U, Fz A U → Fz' A U) (hFo : FzOk Fz') (hrm : RmOk rmy rm ny mc ms k n) (hst : (st.map fun v => v.category).sum ≤ 8) (hlen : As.length = nA) (hs : As.reverse ++ .ref b :: st = st0) {m : Nat} (hm' : ∀ u, (Wf u).length = m) (kk : ∀ (u : S), post u → AW X nL (k + mc) (n + ms) (Wf u) (Pf u) (pc + 3) lo (st)) : AW X nL k n ws pl pc lo st0 :=
  a_callIv (ws' := Wf) C hM hd hm hlk hFz hFo hrm hst hlen hs (List.range ws.length) [] (List.range m) (pick_range ws) (inB_range ws) rfl (va_nd_range _) rfl (dsj_nil _) (fun u => by rw [← hm' u]; exact inB_range _) (va_nd_range _) (fun u => by rw [← hm' u]; exact pick_range _) kk
theorem a_xINv (C : Cok X cc nL own rm Fz) {post : S → Prop} (hM : MV (cxL X) y cy ny none rmy (cxG X) Fz' (.ref b :: As) ws pl post Wf Pf mc ms) (hd : decode cc pc = .ok (.invokespecial idx, 3)) (hm : MthN y cy ny nA) {host : String} (hlk : ∀ A U, Fz A U → va_Nw (.methodLinkNest own idx y host) U) (hFz : ∀ A U, Fz A U → Fz' A U) (hFo : FzOk Fz') (hrm : RmOk rmy rm ny mc ms k n) (hst : (st.map fun v => v.category).sum ≤ 8) (hlen : As.length = nA) (hs : As.reverse ++ .ref b :: st = st0) {m : Nat} (hm' : ∀ u, (Wf u).length = m) (kk : ∀ (u : S), post u → AW X nL (k + mc) (n + ms) (Wf u) (Pf u) (pc + 3) lo (st)) : AW X nL k n ws pl pc lo st0 :=
  a_callINv (ws' := Wf) C hM hd hm hlk hFz hFo hrm hst hlen hs (List.range ws.length) [] (List.range m) (pick_range ws) (inB_range ws) rfl (va_nd_range _) rfl (dsj_nil _) (fun u => by rw [← hm' u]; exact inB_range _) (va_nd_range _) (fun u => by rw [← hm' u]; exact pick_range _) kk
end XC
