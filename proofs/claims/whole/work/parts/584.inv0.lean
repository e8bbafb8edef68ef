/-! the relation at the start -/
theorem hb_z {r s : Int} (hr : 0 ≤ r ∧ 2 * r + 1 < 960) (hs : 0 ≤ s ∧ s < 128) : hb (fun _ => 0) r s = false := by
  have e : (fun _ : Nat => (0 : Int64)) = (fun k => if k < 960 then 0 else (fun _ => 0) k) := by
    funext k
    split <;> rfl
  rw [e]
  exact hb_empty hr hs
theorem tc_z {pl : Pool} : tcR pl S0z vf0 0 0 (fun _ => 0) (fun _ => 0) (fun _ => none) (fun _ => none) (fun _ => 0) (fun _ => 0) (fun _ => 0) := tc_0 (fun k => by omega) (fun k => by omega) (fun _ _ _ => ⟨rfl, rfl⟩) (fun _ _ => rfl) (fun i hi v hv => by simp at hv) (fun r s r0 r1 s0 s1 => ⟨hb_z ⟨r0, r1⟩ ⟨s0, s1⟩, hb_z ⟨r0, r1⟩ ⟨s0, s1⟩⟩) (fun s s0 s1 => hb_z (by omega) (by omega))
theorem i_start0 {A : Nat → Nat} {w : Nat} {v : Value} {b0 b1 b4 b5 : Nat → Int64} {nt ln : Int → Int} (hk : skR S0z vf0 b0 b1 nt ln b4 b5) : Inv A (x0 w v b0 b1 (zA nt) (zA ln) b4 b5) y0 (fun _ => none) [] := by
  have z32 : i32 (fun _ => 0) := fun k => (by decide : (-2147483648 : Int) ≤ 0 ∧ (0 : Int) < 2147483648)
  refine ⟨S0z, vf0, 0, 0, 0, fun _ => 0, fun _ => 0, fun _ => 0, 0, fun _ => 0, ⟨fun _ => 0, nt, ln, ⟨0, 0, fun _ => 0, fun _ => 0, fun _ => 0, fun _ => 0, fun _ => 0, ⟨rfl, rfl, rfl, rfl, rfl, rfl⟩, ⟨rfl, rfl, rfl, rfl, rfl, rfl⟩, tc_z, ⟨⟨by omega, z32, z32, fun j a b => rfl⟩, ⟨by omega, z32, z32, fun j a b => rfl⟩, ⟨by omega, z32, z32, fun j a b => rfl⟩⟩, ⟨by omega, fun i a b => by omega⟩, fun j a b => by omega, fun j a b => by omega⟩, ⟨rfl, rfl, hk⟩, ⟨rfl, fun k a b => (by decide : (0 : Int) ≤ 0 ∧ (0 : Int) ≤ 900)⟩, rfl, rfl, rfl, fun i hi v hv => ?_⟩, ⟨⟨rfl, fun i a b => ?_⟩, ⟨rfl, rfl, rfl, rfl, rfl, rfl⟩, ⟨rfl, rfl, by omega, z32, fun k a b => by omega⟩, rfl⟩, ⟨-1, fun _ => 0, fun _ => 0, fun _ => 0, fun _ => 0, ⟨rfl, rfl, rfl, rfl, rfl⟩, ⟨by omega, z32, z32, z32, fun q => absurd q (by decide)⟩, z32⟩, fun k hk => rfl, fun _ => 0, fun _ => 0, rfl, rfl, z32, z32, fun k hk => ⟨fun _ => rfl, fun p hp => ?_⟩⟩
  · exact absurd (show (none : Option Nat) = some v from hv) (by simp)
  · have : (0 : Int) = S0z 200 := rfl
    omega
  · exact absurd hp (by simp)
theorem p_build0 {pl : Pool} : wp_X6_build pl 0 (fun _ => 0) (fun _ => none) (fun _ => 0) (fun _ => 0) (fun _ => 0) (fun _ => 0) (fun _ => 0) (fun _ => 0) (fun _ => 0) (fun _ => 0) (fun b0 b1 b2 b3 b4 b5 => ∃ nt ln : Int → Int, b2 = zA nt ∧ b3 = zA ln ∧ skR S0z vf0 b0 b1 nt ln b4 b5) := p_build (tw := S0z) (vf := vf0) (kd := fun _ => 0) (hg := fun _ => 0) (suns := fun _ => none) (aw := fun _ => 0) (tc_z (pl := pl)).1.1 (tc_z (pl := pl)).2.1.1 (tc_z (pl := pl)).2.1.2.2.1 (tc_z (pl := pl)).2.2.1.1 (fun rw' gw nt ln cw sw hk => ⟨nt, ln, rfl, rfl, hk⟩)
theorem bz_01 (x : Int32) : bz x = 0 ∨ bz x = 1 := by
  rw [bz]
  split
  · exact Or.inl rfl
  · exact Or.inr rfl
theorem Inv_mk {A : Nat → Nat} {x : XS} {y : YS} {M : MK} {pl : Pool} (I : Inv A x y M pl) : ∀ k, k < 4 → XS.t_marks x k = (M k).map (fun p => p.1 0) := by
  obtain ⟨T, vf, ps, fo, td, pr, fr, tr, tz, tp, hC, hR, hD, hM⟩ := I
  exact hM.1
