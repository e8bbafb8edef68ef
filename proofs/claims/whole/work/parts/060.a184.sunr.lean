/-! a line of the sun, the reference: the last sun of a day -/
section SR
variable {so va pc : Int → Int}
theorem p_lastSunR {T S : Int → Int} (hS : ∀ j, 0 ≤ j → j < 440 → S j = T (440 + j)) (hs : twR S) {d : Int} (hd : -2147483648 ≤ d ∧ d < 2147483648) {at_ fa : Int32} {x96 : Int32 → Int32 → (Nat → Int32) → Int32 → Int32 → Int32 → Prop} {post : Int32 → Int32 → (Nat → Int32) → Prop} (hp : x96 at_ fa (zA T) (zi (S 261)) (zi d) (zi (lstS S d (S 261).toNat))) : ∃ n, lp (wp_X12_readSun_L49 x96 (zL va) (zA pc) (zA so) wd_30 post) n (at_, fa, zA T, zi (S 261), zi d, -1, 0) := by
  have h24 := hs.2.2.1
  refine lp_for0 (fun n => (at_, fa, zA T, zi (S 261), zi d, zi (lstS S d n), zi n)) (S 261).toNat rfl ?_ ?_
  · intro kb
    dsimp only [wp_X12_readSun_L49]
    refine ⟨fun _ => hp, fun z => ?_⟩
    rw [zi_le (by omega)] at z; omega
  · intro n hn kb hkb
    have r := hs.2.2.2.1 n (by omega) (by omega)
    have t1 := hS (262 + 5 * n) (by omega) (by omega)
    have t2 := hS (263 + 5 * n) (by omega) (by omega)
    have st : lstS S d (n + 1) = if S (262 + 5 * n) = d then S (263 + 5 * n) else lstS S d n := rfl
    rw [st] at hkb
    have a1 : (702 : Int32) + 5 * zi (n : Int) = zi (702 + 5 * n) := by rw [zi_lit, zi_lit, zi_mul, zi_add]
    have a2 : zi (702 + 5 * (n : Int)) + 1 = zi (703 + 5 * n) := by rw [zi_lit, zi_add]; congr 1; omega
    dsimp only [wp_X12_readSun_L49]
    refine ⟨fun z => ?_, fun _ x63 e63 => ?_⟩
    · rw [zi_le (by omega)] at z; omega
    rw [a1] at e63
    subst e63
    rw [zA_get (by omega), zi_in (by omega), show (702 + 5 * (n : Int)) = 440 + (262 + 5 * n) by omega, ← t1, zi_eq (by omega)]
    refine ⟨by omega, fun z y90 e90 => ?_, fun z x84 e84 => ?_⟩
    · rw [if_neg z] at hkb
      rw [e90, zi_p1]; exact hkb
    · rw [show (440 + (262 + 5 * (n : Int))) = 702 + 5 * n by omega, a2] at e84
      subst e84
      rw [zi_in (by omega)]
      refine ⟨by omega, fun x89 e89 y90 e90 => ?_⟩
      rw [zA_get (by omega), show (703 + 5 * (n : Int)) = 440 + (263 + 5 * n) by omega, ← t2] at e89
      rw [if_pos z] at hkb
      rw [e89, e90, zi_p1]; exact hkb
end SR
