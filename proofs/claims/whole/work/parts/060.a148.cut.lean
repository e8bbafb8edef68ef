/-! the reference's tokens -/
def wcL : List Int := [0, 1, 2, 3, 4, 6, 7, 8, 9, 10, 22, 23, 24, 25, 26, 27, 28, 29, 11, 12, 13, 14, 15, 16, 17, 18, 19, 20, 21, 5]
def wvL : List Int := [15782540, 1037892, 103232336, 113171648, 974156, 26802, 1597408270, 1176170, 329128, 790116, 27023439, 50646275715036, 255357, 68216370163868, 36398351, 68216371081098, 1172587, 50646276632266, 811933, 4003641, 24636691, 12437, 11527, 173061, 1891, 573, 19741, 919077526, 5538, 43183939]
def wc (w : Nat) : Int := wcL.getD w 0
def wv (w : Nat) : Int := wvL.getD w 0
def gH : List Int → Int
  | [] => 0
  | c :: r => 37 * gH r + (c - 96)
theorem gH_pos : ∀ R : List Int, (∀ c ∈ R, lB c = true) → 0 ≤ gH R
  | [], _ => by rw [gH]; omega
  | c :: r, h => by
    have := gH_pos r (fun d hd => h d (List.mem_cons_of_mem _ hd))
    have c1 := lB_t.1 (h c (List.mem_cons_self ..))
    rw [gH]; omega
theorem gH_inj : ∀ R S : List Int, (∀ c ∈ R, lB c = true) → (∀ c ∈ S, lB c = true) → gH R = gH S → R = S
  | [], [], _, _, _ => rfl
  | [], c :: r, _, h, e => by
    have := gH_pos r (fun d hd => h d (List.mem_cons_of_mem _ hd))
    have c1 := lB_t.1 (h c (List.mem_cons_self ..))
    rw [gH, gH] at e; omega
  | c :: r, [], h, _, e => by
    have := gH_pos r (fun d hd => h d (List.mem_cons_of_mem _ hd))
    have c1 := lB_t.1 (h c (List.mem_cons_self ..))
    rw [gH, gH] at e; omega
  | c :: r, d :: s, h, g, e => by
    have c1 := lB_t.1 (h c (List.mem_cons_self ..))
    have d1 := lB_t.1 (g d (List.mem_cons_self ..))
    rw [gH, gH] at e
    have e1 : c = d := by omega
    have e2 : gH r = gH s := by omega
    rw [e1, gH_inj r s (fun d hd => h d (List.mem_cons_of_mem _ hd)) (fun d hd => g d (List.mem_cons_of_mem _ hd)) e2]
def hv (tp : Int → Int) (k : Int) : Nat → Int
  | 0 => 0
  | t + 1 => if t < 9 then 37 * hv tp k t + (tp (k + t) - 96) else hv tp k t
theorem hv_rng {tp : Int → Int} {k : Int} : ∀ n : Nat, (∀ j, k ≤ j → j < k + n → lB (tp j) = true) → 0 ≤ hv tp k n ∧ (n ≤ 9 → hv tp k n < ((37 ^ n : Nat) : Int)) ∧ hv tp k n < 200000000000000
  | 0, _ => by rw [hv]; omega
  | n + 1, h => by
    have r := hv_rng n (fun j a b => h j a (by omega))
    have d := lB_t.1 (h (k + n) (by omega) (by omega))
    rw [hv]
    by_cases q : n < 9
    · rw [if_pos q]
      have r2 := r.2.1 (by omega)
      have p1 : 37 ^ (n + 1) = 37 * 37 ^ n := by rw [Nat.pow_succ, Nat.mul_comm]
      have p2 : 37 ^ (n + 1) ≤ 37 ^ 9 := Nat.pow_le_pow_right (by omega) (by omega)
      have p3 : 37 ^ 9 = 129961739795077 := by decide
      rw [p3] at p2
      rw [p1] at p2 ⊢
      omega
    · rw [if_neg q]; omega
theorem hv_gH {tp : Int → Int} {k : Int} : ∀ n : Nat, n ≤ 9 → hv tp k n = gH (ltr tp k n).reverse
  | 0, _ => rfl
  | n + 1, h => by
    rw [hv, if_pos (by omega), ltr_snoc, List.reverse_append, hv_gH n (by omega)]
    rfl
set_option maxRecDepth 20000 in
theorem wv_ok : ∀ w : Fin 30, wv w = gH (wds.getD (wc w).toNat []).reverse ∧ wd_30 w = zl (wv w) ∧ fI (wds.getD (wc w).toNat []) wds 0 = wc w ∧ (wds.getD (wc w).toNat []).length ≤ 9 ∧ (0 ≤ wc w ∧ wc w < 30) ∧ (0 ≤ wv w ∧ wv w < 200000000000000) := by decide
set_option maxRecDepth 20000 in
theorem wds_lB : ∀ a ∈ wds, ∀ c ∈ a, lB c = true := by decide
theorem wds_get {j : Nat} (h : j < 30) : wds.getD j [] ∈ wds := by
  have hl : j < wds.length := h
  rw [List.getD_eq_getElem?_getD, List.getElem?_eq_getElem hl]
  exact List.getElem_mem _
/-- one token of the reference beside one of the class -/
def rTok (K V s v : Int) : Prop := (s = 2 ↔ K = 50) ∧ (K = 50 → v = V) ∧ (s = 0 ↔ K = 51) ∧ (s ≠ 0 → 0 ≤ v ∧ v < 200000000000000) ∧ (∀ w : Nat, w < 30 → ((s = 1 ∧ v = wv w) ↔ K = wc w)) ∧ (∀ c, sgK c ≠ 52 → ((s = 3 ∧ v = c) ↔ K = sgK c)) ∧ 0 ≤ s ∧ s ≤ 4
theorem sgK_inj {c d : Int} (h : sgK d ≠ 52) (e : sgK c = sgK d) : c = d := by
  rw [sgK, sgK] at e
  rw [sgK] at h
  by_cases d0 : d = 40
  · rw [if_pos d0] at e; (repeat' split at e) <;> omega
  rw [if_neg d0] at e h
  by_cases d1 : d = 41
  · rw [if_pos d1] at e; (repeat' split at e) <;> omega
  rw [if_neg d1] at e h
  by_cases d2 : d = 60
  · rw [if_pos d2] at e; (repeat' split at e) <;> omega
  rw [if_neg d2] at e h
  by_cases d3 : d = 61
  · rw [if_pos d3] at e; (repeat' split at e) <;> omega
  rw [if_neg d3] at e h
  by_cases d4 : d = 43
  · rw [if_pos d4] at e; (repeat' split at e) <;> omega
  rw [if_neg d4] at e h
  by_cases d5 : d = 45
  · rw [if_pos d5] at e; (repeat' split at e) <;> omega
  rw [if_neg d5] at e h
  by_cases d6 : d = 42
  · rw [if_pos d6] at e; (repeat' split at e) <;> omega
  rw [if_neg d6] at e h
  by_cases d7 : d = 59
  · rw [if_pos d7] at e; (repeat' split at e) <;> omega
  rw [if_neg d7] at h
  exact absurd rfl h
section RT
variable {tp : Int → Int} {tz : Int}
theorem rTok_end {v V : Int} : rTok 51 V 0 v := by
  refine ⟨by omega, fun z => by omega, by omega, fun z => absurd rfl z, fun w hw => ?_, fun c hc => ?_, by omega, by omega⟩
  · have := (wv_ok ⟨w, hw⟩).2.2.2.2.1
    dsimp only at this
    omega
  · have := sgK_rng (c := c); omega
theorem rTok_num {k : Int} (hk : k < tz) (q : dgB (tp k) = true) {s : Int} (hs : (rE dgB tp tz k - k ≤ 4 → s = 2) ∧ (¬ rE dgB tp tz k - k ≤ 4 → s = 4)) : rTok (kK tp tz k) (kV tp tz k) s (ns tp k (rE dgB tp tz k - k).toNat) := by
  have r := kV_rng (tp := tp) (tz := tz) (k := k) (by omega)
  rw [kV, if_neg (gB_nl q), if_pos q] at r
  rw [kK, kV, if_neg (gB_nl q), if_pos q, if_neg (gB_nl q), if_pos q]
  by_cases l : rE dgB tp tz k - k ≤ 4
  · rw [if_pos l, hs.1 l]
    refine ⟨by omega, fun _ => rfl, by omega, fun z => by omega, fun w hw => ?_, fun c hc => ?_, by omega, by omega⟩
    · have := (wv_ok ⟨w, hw⟩).2.2.2.2.1
      dsimp only at this
      omega
    · have := sgK_rng (c := c); omega
  · rw [if_neg l, hs.2 l]
    refine ⟨by omega, fun _ => rfl, by omega, fun z => by omega, fun w hw => ?_, fun c hc => ?_, by omega, by omega⟩
    · have := (wv_ok ⟨w, hw⟩).2.2.2.2.1
      dsimp only at this
      omega
    · have := sgK_rng (c := c); omega
theorem rTok_sgn {k : Int} (l : ¬ lB (tp k) = true) (g : ¬ dgB (tp k) = true) (b : 0 ≤ tp k ∧ tp k < 128) {s : Int} (hs : (sgK (tp k) = 52 → s = 4) ∧ (sgK (tp k) ≠ 52 → s = 3)) : rTok (kK tp tz k) (kV tp tz k) s (tp k) := by
  rw [kK, kV, if_neg l, if_neg g, if_neg l, if_neg g]
  have r := sgK_rng (c := tp k)
  by_cases q : sgK (tp k) = 52
  · rw [hs.1 q]
    refine ⟨by omega, fun _ => by omega, by omega, fun z => by omega, fun w hw => ?_, fun c hc => ?_, by omega, by omega⟩
    · have := (wv_ok ⟨w, hw⟩).2.2.2.2.1
      dsimp only at this
      omega
    · omega
  · rw [hs.2 q]
    refine ⟨by omega, fun _ => by omega, by omega, fun z => by omega, fun w hw => ?_, fun c hc => ?_, by omega, by omega⟩
    · have := (wv_ok ⟨w, hw⟩).2.2.2.2.1
      dsimp only at this
      omega
    · exact ⟨fun z => by rw [z.2], fun z => ⟨rfl, sgK_inj hc z⟩⟩
theorem rTok_wrd {k : Int} (hk : k < tz) (q : lB (tp k) = true) {s : Int} (hs : (rE lB tp tz k - k ≤ 9 → s = 1) ∧ (¬ rE lB tp tz k - k ≤ 9 → s = 4)) : rTok (kK tp tz k) (kV tp tz k) s (hv tp k (rE lB tp tz k - k).toNat) := by
  have rr := rE_rng (p := lB) (tp := tp) (show k ≤ tz by omega)
  have hr := hv_rng (tp := tp) (k := k) (rE lB tp tz k - k).toNat (fun j a b => rE_run (tz := tz) a (by omega))
  have kr := wdK_rng (tp := tp) (tz := tz) (k := k)
  have al : ∀ c ∈ ltr tp k (rE lB tp tz k - k).toNat, lB c = true := by
    intro c hc
    obtain ⟨j, j0, j1, e⟩ := ltr_mem _ _ _ hc
    rw [e]; exact rE_run (tz := tz) (k := k) j0 (by omega)
  have ll := ltr_len (tp := tp) (rE lB tp tz k - k).toNat k
  rw [kK, kV, if_pos q, if_pos q]
  have main : ∀ w : Nat, w < 30 → ((rE lB tp tz k - k ≤ 9 ∧ hv tp k (rE lB tp tz k - k).toNat = wv w) ↔ wdK tp tz k = wc w) := by
    intro w hw
    have o := wv_ok ⟨w, hw⟩
    dsimp only at o
    have hm := wds_get (j := (wc w).toNat) (by omega)
    constructor
    · rintro ⟨l9, e⟩
      rw [hv_gH _ (by omega), o.1] at e
      have e2 := gH_inj _ _ (fun c hc => al c (List.mem_reverse.1 hc)) (fun c hc => wds_lB _ hm c (List.mem_reverse.1 hc)) e
      have e3 := List.reverse_inj.1 e2
      rw [wdK, e3]; exact o.2.2.1
    · intro e
      have e2 := fI_get (L := ltr tp k (rE lB tp tz k - k).toNat) wds 0 (wc w).toNat (by rw [wdK] at e; rw [e]; omega) (show (wc w).toNat < 30 by omega) (show (0 : Int) + 30 ≤ 52 by omega)
      rw [← e2] at ll
      have l9 : rE lB tp tz k - k ≤ 9 := by omega
      refine ⟨l9, ?_⟩
      rw [hv_gH _ (by omega), o.1, e2]
  by_cases l : rE lB tp tz k - k ≤ 9
  · rw [hs.1 l]
    refine ⟨by omega, fun _ => by omega, by omega, fun z => by omega, fun w hw => ?_, fun c hc => ?_, by omega, by omega⟩
    · rw [← main w hw]; exact ⟨fun z => ⟨l, z.2⟩, fun z => ⟨rfl, z.2⟩⟩
    · have := sgK_rng (c := c); omega
  · rw [hs.2 l]
    refine ⟨by omega, fun _ => by omega, by omega, fun z => by omega, fun w hw => ?_, fun c hc => ?_, by omega, by omega⟩
    · rw [← main w hw]; exact ⟨fun z => by omega, fun z => absurd z.1 l⟩
    · have := sgK_rng (c := c); omega
end RT
