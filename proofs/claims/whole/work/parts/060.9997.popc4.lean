/-! how many bits a word has: bitCount -/
theorem dB8 (n : Nat) : ∃ r0 r1 r2 r3 r4 r5 r6 r7, dB 8 n = [r0, r1, r2, r3, r4, r5, r6, r7] := ⟨_, _, _, _, _, _, _, _, rfl⟩
theorem pc8_le {r : Nat} (h : r < 256) : pc8 r ≤ 8 := (t3 ⟨r, h⟩).2.2.2
theorem i32_and (y : Int64) : y.toInt32 &&& 127 = zi ((y.toBitVec.toNat % 128 : Nat) : Int) := by
  apply Int32.toBitVec_inj.mp
  have e0 : y.toInt32.toBitVec = y.toBitVec.setWidth 32 := by
    rw [Int64.toBitVec_toInt32]
    first | exact BitVec.signExtend_eq_setWidth_of_le _ (by decide) | exact BitVec.signExtend_eq_setWidth_of_lt _ (by decide) | exact BitVec.signExtend_eq_setWidth_of_le (by decide) | exact BitVec.signExtend_eq_setWidth_of_lt (by decide)
  have e1 : (y.toInt32 &&& 127).toBitVec = y.toInt32.toBitVec &&& 127#32 := rfl
  rw [e0] at e1
  have e2 : (zi ((y.toBitVec.toNat % 128 : Nat) : Int)).toBitVec = BitVec.ofInt 32 ((y.toBitVec.toNat % 128 : Nat) : Int) := rfl
  rw [e1, e2]
  apply BitVec.eq_of_toNat_eq
  rw [BitVec.toNat_and, BitVec.toNat_setWidth, BitVec.toNat_ofInt]
  have e3 : (127#32).toNat = 2 ^ 7 - 1 := rfl
  rw [e3, Nat.and_two_pow_sub_one_eq_mod]
  generalize y.toBitVec.toNat = q
  omega
theorem vB_dbl : ∀ l : List Nat, vB l + vB l = vB (l.map (fun r => r + r))
  | [] => rfl
  | r :: l => by rw [List.map_cons]; exact vB_add r r l l _ (vB_dbl l)
theorem bcF_pc (x : Int64) : bcF x = zi (pcL (dB 8 x.toBitVec.toNat)) := by
  have hx : x.toBitVec.toNat < 256 ^ 8 := x.toBitVec.isLt
  have v0 := dB_v 8 x.toBitVec.toNat hx
  have ok0 := dB_ok 8 x.toBitVec.toNat
  have hlen : (dB 8 x.toBitVec.toNat).length = 8 := rfl
  obtain ⟨r0, r1, r2, r3, r4, r5, r6, r7, h8⟩ := dB8 x.toBitVec.toNat
  generalize hl : dB 8 x.toBitVec.toNat = l at *
  have ok := okB_map ok0
  have a1 := s1 l ok0
  have a2 := s2 (l.map q1) ok.1
  have a3 := (s3 ((l.map q1).map q2) ok.2.1).2
  rw [ok.2.2] at a3
  rw [List.length_map, List.length_map, hlen] at a3
  rw [List.length_map, hlen] at a2
  rw [hlen, v0] at a1
  have m5 : mkB 85 8 = (6148914691236517205 : Int64).toBitVec.toNat := by decide +kernel
  have m3 : mkB 51 8 = (3689348814741910323 : Int64).toBitVec.toNat := by decide +kernel
  have mf : mkB 15 8 = (1085102592571150095 : Int64).toBitVec.toNat := by decide +kernel
  rw [m5] at a1
  rw [m3] at a2
  rw [mf] at a3
  have ln1 : ∀ m : List Nat, okB m → m.length = 8 → vB m < 256 ^ 8 := fun m h1 h2 => by have := vB_lt m h1; rwa [h2] at this
  have L1 : vB (l.map q1) < 256 ^ 8 := ln1 _ ok.1 (by rw [List.length_map, hlen])
  have L2 : vB ((l.map q1).map q2) < 256 ^ 8 := ln1 _ (fun r hr => by have := ok.2.1 r hr; omega) (by rw [List.length_map, List.length_map, hlen])
  have g1 := n_shr x 1 1 (by decide) (by decide)
  unfold bcF
  simp only []
  -- the first step
  have b1 : (x - (((Int64.toUInt64 x >>> ((Int32.toInt64 (1 : Int32)).toUInt64 &&& Int64.toUInt64 63)).toInt64) &&& 6148914691236517205)).toBitVec.toNat = vB (l.map q1) := by
    rw [n_sub _ _ (by rw [n_and, g1]; exact a1.1), n_and, g1]
    exact a1.2
  generalize x - (((Int64.toUInt64 x >>> ((Int32.toInt64 (1 : Int32)).toUInt64 &&& Int64.toUInt64 63)).toInt64) &&& 6148914691236517205) = x9 at b1 ⊢
  have g2 := n_shr x9 2 2 (by decide) (by decide)
  have b2 : ((x9 &&& 3689348814741910323) + (((Int64.toUInt64 x9 >>> ((Int32.toInt64 (2 : Int32)).toUInt64 &&& Int64.toUInt64 63)).toInt64) &&& 3689348814741910323)).toBitVec.toNat = vB ((l.map q1).map q2) := by
    have e : (x9 &&& 3689348814741910323).toBitVec.toNat + ((((Int64.toUInt64 x9 >>> ((Int32.toInt64 (2 : Int32)).toUInt64 &&& Int64.toUInt64 63)).toInt64) &&& 3689348814741910323)).toBitVec.toNat = vB ((l.map q1).map q2) := by
      rw [n_and, n_and, g2, b1]
      exact a2
    rw [n_add _ _ (by rw [e]; exact L2), e]
  generalize (x9 &&& 3689348814741910323) + (((Int64.toUInt64 x9 >>> ((Int32.toInt64 (2 : Int32)).toUInt64 &&& Int64.toUInt64 63)).toInt64) &&& 3689348814741910323) = x23 at b2 ⊢
  have g3 := n_shr x23 4 4 (by decide) (by decide)
  have b3 : ((x23 + ((Int64.toUInt64 x23 >>> ((Int32.toInt64 (4 : Int32)).toUInt64 &&& Int64.toUInt64 63)).toInt64)) &&& 1085102592571150095).toBitVec.toNat = vB (l.map pc8) := by
    have L3 : vB ((l.map q1).map q2) + vB ((l.map q1).map q2) < 256 ^ 8 := by
      rw [vB_dbl]
      refine ln1 _ (fun r hr => ?_) (by rw [List.length_map, List.length_map, List.length_map, hlen])
      obtain ⟨y, hy, rfl⟩ := List.mem_map.mp hr
      have := ok.2.1 y hy
      show y + y < 256
      omega
    have e : x23.toBitVec.toNat + ((Int64.toUInt64 x23 >>> ((Int32.toInt64 (4 : Int32)).toUInt64 &&& Int64.toUInt64 63)).toInt64).toBitVec.toNat = vB ((l.map q1).map q2) + vB ((l.map q1).map q2) / 16 := by
      rw [g3, b2]
    rw [n_and, n_add _ _ (by rw [e]; have := Nat.div_le_self (vB ((l.map q1).map q2)) 16; omega), e]
    exact a3
  generalize (x23 + ((Int64.toUInt64 x23 >>> ((Int32.toInt64 (4 : Int32)).toUInt64 &&& Int64.toUInt64 63)).toInt64)) &&& 1085102592571150095 = x33 at b3 ⊢
  subst h8
  have o : ∀ r, r ∈ [r0, r1, r2, r3, r4, r5, r6, r7] → pc8 r ≤ 8 := fun r hr => pc8_le (ok0 r hr)
  obtain ⟨b4, b5, b6, f4, f5, f6, l4, l5, l6, fe⟩ := s4 (o r0 (by simp)) (o r1 (by simp)) (o r2 (by simp)) (o r3 (by simp)) (o r4 (by simp)) (o r5 (by simp)) (o r6 (by simp)) (o r7 (by simp))
  have b3' : x33.toBitVec.toNat = vB [pc8 r0, pc8 r1, pc8 r2, pc8 r3, pc8 r4, pc8 r5, pc8 r6, pc8 r7] := b3
  rw [← b3'] at f4
  have g4 := n_shr x33 8 8 (by decide) (by decide)
  have c4 : (x33 + ((Int64.toUInt64 x33 >>> ((Int32.toInt64 (8 : Int32)).toUInt64 &&& Int64.toUInt64 63)).toInt64)).toBitVec.toNat = b4 := by
    have e : x33.toBitVec.toNat + ((Int64.toUInt64 x33 >>> ((Int32.toInt64 (8 : Int32)).toUInt64 &&& Int64.toUInt64 63)).toInt64).toBitVec.toNat = b4 := by rw [g4, f4]
    rw [n_add _ _ (by rw [e]; exact l4), e]
  generalize x33 + ((Int64.toUInt64 x33 >>> ((Int32.toInt64 (8 : Int32)).toUInt64 &&& Int64.toUInt64 63)).toInt64) = x40 at c4 ⊢
  have g5 := n_shr x40 16 16 (by decide) (by decide)
  have c5 : (x40 + ((Int64.toUInt64 x40 >>> ((Int32.toInt64 (16 : Int32)).toUInt64 &&& Int64.toUInt64 63)).toInt64)).toBitVec.toNat = b5 := by
    have e : x40.toBitVec.toNat + ((Int64.toUInt64 x40 >>> ((Int32.toInt64 (16 : Int32)).toUInt64 &&& Int64.toUInt64 63)).toInt64).toBitVec.toNat = b5 := by rw [g5, c4, f5]
    rw [n_add _ _ (by rw [e]; exact l5), e]
  generalize x40 + ((Int64.toUInt64 x40 >>> ((Int32.toInt64 (16 : Int32)).toUInt64 &&& Int64.toUInt64 63)).toInt64) = x47 at c5 ⊢
  have g6 := n_shr x47 32 32 (by decide) (by decide)
  have c6 : (x47 + ((Int64.toUInt64 x47 >>> ((Int32.toInt64 (32 : Int32)).toUInt64 &&& Int64.toUInt64 63)).toInt64)).toBitVec.toNat = b6 := by
    have e : x47.toBitVec.toNat + ((Int64.toUInt64 x47 >>> ((Int32.toInt64 (32 : Int32)).toUInt64 &&& Int64.toUInt64 63)).toInt64).toBitVec.toNat = b6 := by rw [g6, c5, f6]
    rw [n_add _ _ (by rw [e]; exact l6), e]
  rw [i32_and, c6, fe]
  congr 1
  simp only [pcL]
  omega
