/-! tell, clear, spot, follow: both sides -/
section CH2
variable {tw kd hg nt : Int → Int}
noncomputable def tellV (z x : Int) : Int := if (0 ≤ x ∧ x ≤ 4) ∧ z < 60 then z + 1 else -1
theorem p_tellC {f : Int → Int} {z x : Int} (hz : 0 ≤ z ∧ z ≤ 60) (a1 : ir x) {post : Int32 → Int32 → (Nat → Int32) → Prop} (h1 : (0 ≤ x ∧ x ≤ 4) ∧ z < 60 → post (zi (tellV z x)) (zi (z + 1)) (zA (upI f z x))) (h0 : ¬ ((0 ≤ x ∧ x ≤ 4) ∧ z < 60) → post (zi (tellV z x)) (zi z) (zA f)) : wp_X11_tell (zi z) (zA f) (zi x) post := by
  have b1 := a1
  simp only [ir] at b1
  simp (disch := omega) only [wp_X11_tell, zi_lit, zi_neg, zi_lt]
  refine ⟨fun q => ?_, fun q => ⟨fun r => ?_, fun r => ?_⟩⟩
  · have := h0 (by omega); rw [tellV, if_neg (by omega)] at this; exact this
  · have := h0 (by omega); rw [tellV, if_neg (by omega)] at this; exact this
  · refine p_add (by decide) (by omega) (fun y => ⟨fun _ => ?_, fun w => absurd w (by decide)⟩) (fun y => ⟨fun w => absurd rfl w, fun _ => ?_⟩)
    · have := h1 ⟨by omega, by omega⟩; rw [tellV, if_pos (by omega)] at this; exact this
    · have := h0 (by omega); rw [tellV, if_neg (by omega)] at this; exact this
theorem p_tellR {f : Int → Int} {z x : Int} (hz : 0 ≤ z ∧ z ≤ 60) (a1 : ir x) {th : Int32} {post : Int32 → Int32 → Int32 → (Nat → Int32) → Prop} (h1 : (0 ≤ x ∧ x ≤ 4) ∧ z < 60 → post (zi (tellV z x)) 0 (zi (z + 1)) (zA (upI f z x))) (h0 : ¬ ((0 ≤ x ∧ x ≤ 4) ∧ z < 60) → post (zi (tellV z x)) 0 (zi z) (zA f)) : wp_X12_tell th (zi z) (zA f) (zi x) post := by
  simp only [wp_X12_tell]
  rw [show (0 : Int32) = zi 0 from rfl, show (4 : Int32) = zi 4 from rfl]
  refine p_within a1 (by omega) (by omega) (fun w => ⟨fun z => absurd z (by decide), fun _ => ?_⟩) (fun w => ⟨fun _ => ?_, fun z => absurd rfl z⟩)
  · simp (disch := omega) only [forall_eq, zi_lit, zi_eq, zi_in, zi_add, zA_upd]
    refine ⟨fun q => ⟨by omega, ?_⟩, fun q => ?_⟩
    · have := h1 ⟨w, by omega⟩; rw [tellV, if_pos ⟨w, by omega⟩] at this; exact this
    · have := h0 (by omega); rw [tellV, if_neg (by omega)] at this; exact this
  · have := h0 (fun y => w y.1); rw [tellV, if_neg (fun y => w y.1)] at this; exact this
/-- whether a chain holds a number -/
theorem p_chHolds {n : Nat} (hn : n < 1000000) {f : Int → Int} (hf : i32 f) {z x : Int} (hz : 0 ≤ z ∧ z ≤ n) (hx : ir x) {post : Int32 → Prop} (h1 : (∃ j, 0 ≤ j ∧ j < z ∧ f j = x) → post 1) (h0 : (∀ j, 0 ≤ j → j < z → f j ≠ x) → post 0) : wp_X0_holds n (zi z) (zA f) (zi x) post := by
  have b := hx
  simp only [ir] at b
  simp only [wp_X0_holds]
  refine lp_inv (fun i s' => s' = (zi x, zi i) ∧ ∀ j, 0 ≤ j → j < (i : Int) → f j ≠ x) z.toNat ?_ ?_ 0 (Nat.zero_le _) ⟨rfl, fun j a c => by omega⟩
  · rintro s' ⟨rfl, hno⟩ kb
    simp (disch := omega) only [wp_X0_holds_L2, zi_le]
    exact ⟨fun _ => h0 (fun j a c => hno j a (by omega)), fun q => by omega⟩
  · rintro i hi s' ⟨rfl, hno⟩ kb hkb
    have hni : ((i + 1 : Nat) : Int) = (i : Int) + 1 := by omega
    have hfi := hf i
    simp (disch := omega) only [wp_X0_holds_L2, zi_le]
    refine ⟨fun q => by omega, fun _ => ?_⟩
    refine p_at hn hz (by omega) (fun _ _ => ?_) (fun q => by omega)
    simp (disch := omega) only [forall_eq, zi_lit, zi_add, zi_eq]
    refine ⟨fun q => hkb _ ⟨by rw [hni], fun j a c => ?_⟩, fun q => h1 ⟨i, by omega, by omega, q⟩⟩
    by_cases u : j = i
    · rw [u]; exact q
    · exact hno j a (by omega)
/-- a spot is taken -/
def spotP (tw f : Int → Int) (z s : Int) : Prop := (0 ≤ s ∧ s < 100) ∧ tw s = 0 ∧ z < 8 ∧ ∀ j, 0 ≤ j → j < z → f j ≠ s
noncomputable def spotV (tw f : Int → Int) (z s : Int) : Int := @ite Int (spotP tw f z s) (Classical.propDecidable _) z (-1)
theorem p_spotC (hK : kdR tw kd hg) (hT : i32 tw) {f : Int → Int} (hf : i32 f) {z s : Int} (hz : 0 ≤ z ∧ z ≤ 8) (a1 : ir s) {post : Int32 → Int32 → (Nat → Int32) → Prop} (h1 : spotP tw f z s → post (zi (spotV tw f z s)) (zi (z + 1)) (zA (upI f z s))) (h0 : ¬ spotP tw f z s → post (zi (spotV tw f z s)) (zi z) (zA f)) : wp_X11_spot (zA kd) (zi z) (zA f) (zi s) post := by
  have g0 : ¬ spotP tw f z s → post (zi (-1)) (zi z) (zA f) := fun q => by have := h0 q; rw [spotV, if_neg q] at this; exact this
  simp only [wp_X11_spot]
  refine p_isSquare a1 (fun q => ⟨fun z => absurd z (by decide), fun _ => ?_⟩) (fun q => ⟨fun _ => g0 (fun y => q y.1), fun z => absurd rfl z⟩)
  have k1 := hK.2.2 s q.1 q.2
  have ts := hT s
  simp (disch := omega) only [zi_lit, zi_neg, zi_in, zA_get, k1.1, zi_eq]
  refine ⟨by omega, fun y => g0 (fun u => y u.2.1), fun y => ?_⟩
  refine p_chHolds (by decide) hf (by omega) a1 (fun u => ⟨fun _ => g0 (fun v => by obtain ⟨j, j1, j2, j3⟩ := u; exact v.2.2.2 j j1 j2 j3), fun v => absurd v (by decide)⟩) (fun u => ⟨fun v => absurd rfl v, fun _ => ?_⟩)
  refine p_add (by decide) (by omega) (fun x => ⟨fun _ => ?_, fun w => absurd w (by decide)⟩) (fun x => ⟨fun w => absurd rfl w, fun _ => g0 (fun v => by have := v.2.2.1; omega)⟩)
  have sp : spotP tw f z s := ⟨q, y, by omega, u⟩
  have := h1 sp
  rw [spotV, if_pos sp] at this
  rw [zi_sub, show z + 1 - 1 = z by omega]
  exact this
theorem p_spotR (hT : i32 tw) {f : Int → Int} (hf : i32 f) {z s : Int} (hz : 0 ≤ z ∧ z ≤ 8) (a1 : ir s) {th : Int32} {post : Int32 → Int32 → Int32 → (Nat → Int32) → Prop} (h1 : spotP tw f z s → post (zi (spotV tw f z s)) 0 (zi (z + 1)) (zA (upI f z s))) (h0 : ¬ spotP tw f z s → post (zi (spotV tw f z s)) 0 (zi z) (zA f)) : wp_X12_spot (zA tw) th (zi z) (zA f) (zi s) post := by
  have g0 : ¬ spotP tw f z s → post (zi (-1)) 0 (zi z) (zA f) := fun q => by have := h0 q; rw [spotV, if_neg q] at this; exact this
  have b1 := a1
  simp only [ir] at b1
  simp only [wp_X12_spot]
  refine p_isSquareR a1 (fun q => ⟨fun z => absurd z (by decide), fun _ => ?_⟩) (fun q => ⟨fun _ => g0 (fun y => q y.1), fun z => absurd rfl z⟩)
  have ts := hT s
  rw [zi_in (by omega), zA_get (by omega), show (0 : Int32) = zi 0 from rfl, show (8 : Int32) = zi 8 from rfl, zi_eq (by omega), zi_eq (by omega)]
  refine ⟨by omega, fun y => g0 (fun u => y u.2.1), fun y => ⟨fun u => ?_, fun u => g0 (fun v => by have := v.2.2.1; omega)⟩⟩
  refine lp_inv (fun i s' => s' = (zi 0, zi z, zA f, zi s, zi i) ∧ ∀ j, 0 ≤ j → j < (i : Int) → f j ≠ s) z.toNat ?_ ?_ 0 (Nat.zero_le _) ⟨rfl, fun j a c => by omega⟩
  · rintro s' ⟨rfl, hno⟩ kb
    simp (disch := omega) only [wp_X12_spot_L34, forall_eq, zi_lit, zi_le, zi_in, zi_add, zi_sub, zA_upd]
    have sp : spotP tw f z s := ⟨q, y, by omega, fun j a c => hno j a (by omega)⟩
    refine ⟨fun _ => ⟨by omega, ?_⟩, fun x => by omega⟩
    have := h1 sp
    rw [spotV, if_pos sp] at this
    rw [show z + 1 - 1 = z by omega]
    exact this
  · rintro i hi s' ⟨rfl, hno⟩ kb hkb
    have hni : ((i + 1 : Nat) : Int) = (i : Int) + 1 := by omega
    have hfi := hf i
    simp (disch := omega) only [wp_X12_spot_L34, forall_eq, zi_lit, zi_le, zi_in, zA_get, zi_eq, zi_add]
    refine ⟨fun x => by omega, fun _ => ⟨by omega, fun x => hkb _ ⟨by rw [hni], fun j a c => ?_⟩, fun x => g0 (fun v => v.2.2.2 i (by omega) (by omega) x)⟩⟩
    by_cases w : j = i
    · rw [w]; exact x
    · exact hno j a (by omega)
/-- a follower's square -/
def folP (tw f : Int → Int) (z s : Int) : Prop := ((0 ≤ s ∧ s < 100) ∧ tw s ≠ 1) ∧ z < 30 ∧ (z = 0 ∨ ∃ w, 0 ≤ w ∧ w < 4 ∧ stp (f (z - 1)) w = s)
noncomputable def folV (tw f : Int → Int) (z s : Int) : Int := @ite Int (folP tw f z s) (Classical.propDecidable _) (z + 1) (-1)
theorem p_isNext (hnt : ntR nt tw) (hnti : i32 nt) {a s : Int} (ha : 0 ≤ a ∧ a < 100) (hs : (0 ≤ s ∧ s < 100) ∧ tw s ≠ 1) {post : Int32 → Prop} (h1 : (∃ w, 0 ≤ w ∧ w < 4 ∧ stp a w = s) → post 1) (h0 : (¬ ∃ w, 0 ≤ w ∧ w < 4 ∧ stp a w = s) → post 0) : wp_X6_isNext (zA nt) (zi a) (zi s) post := by
  simp only [wp_X6_isNext]
  refine lp_inv (fun i s' => s' = (zi a, zi s, zi i) ∧ ∀ w, 0 ≤ w → w < (i : Int) → stp a w ≠ s) 4 ?_ ?_ 0 (Nat.zero_le _) ⟨rfl, fun j a c => by omega⟩
  · rintro s' ⟨rfl, hno⟩ kb
    simp (disch := omega) only [wp_X6_isNext_L2, zi_lit, zi_le]
    refine ⟨fun _ => h0 ?_, fun x => absurd (by decide) x⟩
    rintro ⟨w, w0, w1, w2⟩
    exact hno w w0 w1 w2
  · rintro i hi s' ⟨rfl, hno⟩ kb hkb
    have hni : ((i + 1 : Nat) : Int) = (i : Int) + 1 := by omega
    simp (disch := omega) only [wp_X6_isNext_L2, zi_lit, zi_le, zi_lt]
    refine ⟨fun x => by omega, fun _ => ⟨fun x => by omega, fun _ => ?_⟩⟩
    refine p_nextTo hnt hnti ha (by omega) ?_
    have sr : stp a i = -1 ∨ (0 ≤ stp a i ∧ stp a i < 100) := stp_rng ha
    have er : -1 ≤ (if stp a i = -1 ∨ tw (stp a i) = 1 then -1 else stp a i) ∧ (if stp a i = -1 ∨ tw (stp a i) = 1 then -1 else stp a i) < 100 := by split <;> omega
    simp (disch := omega) only [forall_eq, zi_add, zi_eq]
    refine ⟨fun x => hkb _ ⟨by rw [hni], fun w w0 w1 => ?_⟩, fun x => h1 ⟨i, by omega, by omega, ?_⟩⟩
    · by_cases u : w = i
      · rw [u]
        intro e
        rw [e] at x
        rw [if_neg (by have := hs.2; omega)] at x
        exact x rfl
      · exact hno w w0 (by omega)
    · split at x
      · omega
      · exact x
end CH2
