/-! the yard comes to one end alone; the reference's rows of tokens are there -/
section DT
variable {tp : Int → Int} {tz : Int} {N : Nat}
theorem Yw_det {Q1 Q2 : Int → Nat → List Int → Prop} : ∀ (n1 n2 i : Nat) (P c : List Int) (d : Int) (w : Bool), Yw tp tz Q1 n1 i P c d w → Yw tp tz Q2 n2 i P c d w → ∃ k j C, Q1 k j C ∧ Q2 k j C := by
  intro n1
  induction n1 with
  | zero => intro n2 i P c d w h1 _; exact h1.elim
  | succ n1 ih =>
    intro n2 i P c d w h1 h2
    cases n2 with
    | zero => exact h2.elim
    | succ n2 =>
      rw [Yw] at h1 h2
      by_cases e : w = true
      · rw [if_pos e, yP] at h1 h2
        by_cases a : tK tp tz i = 39
        · rw [if_pos a] at h1 h2; exact ⟨_, _, _, h1, h2⟩
        rw [if_neg a] at h1 h2
        by_cases b : tK tp tz i = 19 ∨ tK tp tz i = 32
        · rw [if_pos b] at h1 h2
          by_cases q : 5 ≤ d
          · rw [if_pos q] at h1 h2; exact ⟨_, _, _, h1, h2⟩
          · rw [if_neg q] at h1 h2; exact ih _ _ _ _ _ _ h1 h2
        rw [if_neg b] at h1 h2
        by_cases b : tK tp tz i = 50 ∨ tK tp tz i = 20 ∨ tK tp tz i = 21
        · rw [if_pos b] at h1 h2
          by_cases q : 5 ≤ d
          · rw [if_pos q] at h1 h2; exact ⟨_, _, _, h1, h2⟩
          · rw [if_neg q] at h1 h2; exact ih _ _ _ _ _ _ h1 h2
        · rw [if_neg b] at h1 h2; exact ⟨_, _, _, h1, h2⟩
      · rw [if_neg e, yL] at h1 h2
        by_cases a : tK tp tz i = 39
        · rw [if_pos a] at h1 h2
          by_cases q : (stl 1 P c).1 = []
          · rw [if_pos q] at h1 h2; exact ⟨_, _, _, h1, h2⟩
          · rw [if_neg q] at h1 h2; exact ⟨_, _, _, h1, h2⟩
        rw [if_neg a] at h1 h2
        by_cases b : tK tp tz i = 33
        · rw [if_pos b] at h1 h2
          revert h1 h2
          generalize stl 1 P c = Z
          obtain ⟨Z1, Z2⟩ := Z
          cases Z1 with
          | nil => intro h1 h2; rw [yC] at h1 h2; exact ⟨_, _, _, h1, h2⟩
          | cons t P' =>
            intro h1 h2
            rw [yC] at h1 h2
            by_cases q : t = 32
            · rw [if_pos q] at h1 h2; exact ih _ _ _ _ _ _ h1 h2
            · rw [if_neg q] at h1 h2; exact ⟨_, _, _, h1, h2⟩
        rw [if_neg b] at h1 h2
        by_cases k : rk (tK tp tz i) = 0
        · rw [if_pos k] at h1 h2; exact ⟨_, _, _, h1, h2⟩
        rw [if_neg k, yK] at h1 h2
        by_cases q : rk (tK tp tz i) = 2 ∧ rk (hdI (stl (if rk (tK tp tz i) = 2 then 3 else rk (tK tp tz i)) P c).1) = 2
        · rw [if_pos q] at h1 h2; exact ⟨_, _, _, h1, h2⟩
        · rw [if_neg q] at h1 h2; exact ih _ _ _ _ _ _ h1 h2
theorem YW_det {Q1 Q2 : Int → Nat → List Int → Prop} {i : Nat} {P c : List Int} {d : Int} {w : Bool} (h1 : YW tp tz Q1 i P c d w) (h2 : YW tp tz Q2 i P c d w) : ∃ k j C, Q1 k j C ∧ Q2 k j C := by
  obtain ⟨n1, g1⟩ := h1
  obtain ⟨n2, g2⟩ := h2
  exact Yw_det n1 n2 _ _ _ _ _ g1 g2
/-- the one end that an E may come to -/
def eR (tp : Int → Int) (tz : Int) (k : Int) (j : Nat) (C : List Int) (k' : Int) (j' : Nat) (C' : List Int) : Prop := (k ≠ 0 ∧ k' = k ∧ j' = j) ∨ (k = 0 ∧ tK tp tz j = 39 ∧ k' = 0 ∧ j' = j ∧ C' = C) ∨ (k = 0 ∧ tK tp tz j ≠ 39 ∧ k' = 1 ∧ j' = j)
def yEnd (tp : Int → Int) (tz : Int) (i : Nat) (k : Int) (j : Nat) (C : List Int) : Prop := ∀ Q : Int → Nat → List Int → Prop, (k ≠ 0 → Q k j []) → (k = 0 → tK tp tz j = 39 → Q 0 j C) → (k = 0 → tK tp tz j ≠ 39 → Q 1 j []) → YW tp tz Q i [] [] 0 true
theorem yEnd_R {i : Nat} {k : Int} {j : Nat} {C : List Int} (h : yEnd tp tz i k j C) : YW tp tz (eR tp tz k j C) i [] [] 0 true := h _ (fun z => Or.inl ⟨z, rfl, rfl⟩) (fun z y => Or.inr (Or.inl ⟨z, y, rfl, rfl, rfl⟩)) (fun z y => Or.inr (Or.inr ⟨z, y, rfl, rfl⟩))
theorem eR_tl {k : Int} {j : Nat} {C : List Int} {kq : Int} {jq : Nat} {Cq : List Int} (h : eR tp tz k j C kq jq Cq) (hq : kq ≠ 0) : (if k ≠ 0 then (k, j) else smK tp tz j) = (kq, jq) := by
  rcases h with ⟨a, b, c⟩ | ⟨a, b, c, d, e⟩ | ⟨a, b, c, d⟩
  · rw [if_pos a, b, c]
  · exact absurd c hq
  · rw [if_neg (fun z => z a), smK, if_neg b, c, d]
theorem eR_0 {k : Int} {j : Nat} {C : List Int} {kq : Int} {jq : Nat} {Cq : List Int} (h : eR tp tz k j C kq jq Cq) (hq : kq = 0) : k = 0 ∧ jq = j ∧ Cq = C := by
  rcases h with ⟨a, b, c⟩ | ⟨a, b, c, d, e⟩ | ⟨a, b, c, d⟩
  · exact absurd (b.symm.trans hq) a
  · exact ⟨a, d, e⟩
  · rw [hq] at c; exact absurd c (by decide)
theorem E_same {i : Nat} {k k2 : Int} {j j2 : Nat} {C C2 : List Int} (h1 : yEnd tp tz i k j C) (h2 : yEnd tp tz i k2 j2 C2) : (k = 0 ∧ k2 = 0 ∧ j2 = j ∧ C2 = C) ∨ ∃ kq jq, kq ≠ 0 ∧ (if k ≠ 0 then (k, j) else smK tp tz j) = (kq, jq) ∧ (if k2 ≠ 0 then (k2, j2) else smK tp tz j2) = (kq, jq) := by
  obtain ⟨kq, jq, Cq, u1, u2⟩ := YW_det (yEnd_R h1) (yEnd_R h2)
  by_cases q : kq = 0
  · have a := eR_0 u1 q
    have b := eR_0 u2 q
    exact Or.inl ⟨a.1, b.1, b.2.1.symm.trans a.2.1, b.2.2.symm.trans a.2.2⟩
  · exact Or.inr ⟨kq, jq, q, eR_tl u1 q, eR_tl u2 q⟩
theorem clK_far (hz : 0 ≤ tz) (hN : pos tp tz N = tz) {S : Int → Int} {i : Nat} (h : ¬ i + 1 + 1 + 1 + 1 ≤ N) (k k2 : Int) (j j2 : Nat) : clK tp tz S i k2 j2 = clK tp tz S i k j := by
  have e : tK tp tz (i + 1 + 1 + 1) = 51 := tK_end.2 (by rw [pos_end hz hN (by omega)]; omega)
  have n3 : tK tp tz (i + 1 + 1 + 1) ≠ 8 := by omega
  simp only [clK, if_pos n3]
theorem lnR_irr {so va pc : Int → Int} {i : Nat} {S : Int → Int} {vf : Int → Int → Int → Int32} {e : Nat} {k : Int} {j : Nat} {S1 S2 : Int → Int} {vf1 vf2 : Int → Int → Int → Int32} {e1 e2 : Nat} (nk : k ≠ 0) (h : lnR tp tz so va pc i S vf e k j S1 vf1 e1) : lnR tp tz so va pc i S vf e k j S2 vf2 e2 := fun T op arg H post F _ => h T op arg H post F (fun z => absurd z nk)
theorem rT_ex (hz : 0 ≤ tz) (hb : tokB tp tz) (i : Nat) : ∃ s v, rTok (tK tp tz i) (tV tp tz i) s v := by
  have pr := pos_rng (tp := tp) hz i
  by_cases q : pos tp tz i < tz
  · obtain ⟨e1, e2⟩ := tK_at (m := i) rfl q
    rw [e1, e2]
    have b := hb _ pr.1 q
    by_cases l : lB (tp (pos tp tz i)) = true
    · by_cases n : rE lB tp tz (pos tp tz i) - pos tp tz i ≤ 9
      · exact ⟨1, _, rTok_wrd q l ⟨fun _ => rfl, fun z => absurd n z⟩⟩
      · exact ⟨4, _, rTok_wrd q l ⟨fun z => absurd z n, fun _ => rfl⟩⟩
    by_cases g : dgB (tp (pos tp tz i)) = true
    · by_cases n : rE dgB tp tz (pos tp tz i) - pos tp tz i ≤ 4
      · exact ⟨2, _, rTok_num q g ⟨fun _ => rfl, fun z => absurd n z⟩⟩
      · exact ⟨4, _, rTok_num q g ⟨fun z => absurd z n, fun _ => rfl⟩⟩
    · by_cases n : sgK (tp (pos tp tz i)) = 52
      · exact ⟨4, _, rTok_sgn l g (by omega) ⟨fun _ => rfl, fun z => absurd n z⟩⟩
      · exact ⟨3, _, rTok_sgn l g (by omega) ⟨fun z => absurd z n, fun _ => rfl⟩⟩
  · rw [tK_end.2 q]
    exact ⟨0, 0, rTok_end⟩
theorem flR_ex (hz : 0 ≤ tz) (hb : tokB tp tz) : ∃ so va pc : Int → Int, flR tp tz (N + 1) so va pc := by
  refine ⟨fun i => Classical.choose (rT_ex hz hb i.toNat), fun i => Classical.choose (Classical.choose_spec (rT_ex hz hb i.toNat)), fun i => pos tp tz i.toNat, fun i hi => ⟨?_, ?_⟩⟩
  · exact Classical.choose_spec (Classical.choose_spec (rT_ex hz hb ((i : Int)).toNat))
  · rfl
end DT
