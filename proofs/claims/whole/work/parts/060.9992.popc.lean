/-! how many bits a word has -/
theorem land_split {a m r s : Nat} (hr : r < 256) (hs : s < 256) : (256 * a + r) &&& (256 * m + s) = 256 * (a &&& m) + (r &&& s) := by
  have hrs : r &&& s < 2 ^ 8 := Nat.and_lt_two_pow _ (show s < 2 ^ 8 from hs)
  refine Nat.eq_of_testBit_eq (fun i => ?_)
  rw [Nat.testBit_and, show (256 : Nat) = 2 ^ 8 from rfl, Nat.testBit_two_pow_mul_add a (show r < 2 ^ 8 from hr), Nat.testBit_two_pow_mul_add m (show s < 2 ^ 8 from hs), Nat.testBit_two_pow_mul_add (a &&& m) hrs]
  by_cases h : i < 8
  · rw [if_pos h, if_pos h, if_pos h, Nat.testBit_and]
  · rw [if_neg h, if_neg h, if_neg h, Nat.testBit_and]
/-- a mask of so many bytes -/
def mkB (b : Nat) : Nat → Nat
  | 0 => 0
  | n + 1 => 256 * mkB b n + b
def vB : List Nat → Nat
  | [] => 0
  | r :: l => 256 * vB l + r
def q1 (r : Nat) : Nat := r - ((r / 2) &&& 85)
def q2 (r : Nat) : Nat := (r &&& 51) + ((r / 4) &&& 51)
def q3 (r : Nat) : Nat := (r + r / 16) &&& 15
def pc8 (r : Nat) : Nat := (r % 2) + (r / 2 % 2) + (r / 4 % 2) + (r / 8 % 2) + (r / 16 % 2) + (r / 32 % 2) + (r / 64 % 2) + (r / 128 % 2)
theorem t1 : ∀ r : Fin 256, ∀ t : Fin 2, (128 * t.val + r.val / 2) &&& 85 = (r.val / 2) &&& 85 ∧ (r.val / 2) &&& 85 ≤ r.val ∧ q1 r.val < 256 := by decide +kernel
theorem t2 : ∀ r : Fin 256, ∀ t : Fin 4, (64 * t.val + r.val / 4) &&& 51 = (r.val / 4) &&& 51 ∧ q2 r.val < 256 := by decide +kernel
theorem t3 : ∀ r : Fin 256, q3 (q2 (q1 r.val)) = pc8 r.val ∧ q2 (q1 r.val) ≤ 68 ∧ q2 (q1 r.val) % 16 ≤ 4 ∧ pc8 r.val ≤ 8 := by decide +kernel
theorem t4 : ∀ r : Fin 69, ∀ t : Fin 5, (r.val + 16 * t.val + r.val / 16) &&& 15 = q3 r.val := by decide +kernel
def okB (l : List Nat) : Prop := ∀ r ∈ l, r < 256
theorem s1 : ∀ l : List Nat, okB l → (vB l / 2) &&& mkB 85 l.length ≤ vB l ∧ vB l - ((vB l / 2) &&& mkB 85 l.length) = vB (l.map q1)
  | [], _ => by simp [vB, mkB]
  | r :: l, h => by
    have hr : r < 256 := h r (by simp)
    have ih := s1 l (fun x hx => h x (by simp [hx]))
    have f := t1 ⟨r, hr⟩ ⟨vB l % 2, by omega⟩
    simp only at f
    have e : (256 * vB l + r) / 2 = 256 * (vB l / 2) + (128 * (vB l % 2) + r / 2) := by omega
    simp only [vB, List.length_cons, mkB, List.map_cons]
    rw [e, land_split (by omega) (by omega), f.1]
    have : q1 r = r - ((r / 2) &&& 85) := rfl
    omega
theorem s2 : ∀ l : List Nat, okB l → (vB l &&& mkB 51 l.length) + ((vB l / 4) &&& mkB 51 l.length) = vB (l.map q2)
  | [], _ => by simp [vB, mkB]
  | r :: l, h => by
    have hr : r < 256 := h r (by simp)
    have ih := s2 l (fun x hx => h x (by simp [hx]))
    have f := t2 ⟨r, hr⟩ ⟨vB l % 4, by omega⟩
    simp only at f
    have e : (256 * vB l + r) / 4 = 256 * (vB l / 4) + (64 * (vB l % 4) + r / 4) := by omega
    simp only [vB, List.length_cons, mkB, List.map_cons]
    rw [e, land_split hr (by omega), land_split (by omega) (by omega), f.1]
    have : q2 r = (r &&& 51) + ((r / 4) &&& 51) := rfl
    omega
theorem s3 : ∀ l : List Nat, (∀ r ∈ l, r ≤ 68 ∧ r % 16 ≤ 4) → vB l % 16 ≤ 4 ∧ (vB l + vB l / 16) &&& mkB 15 l.length = vB (l.map q3)
  | [], _ => by simp [vB, mkB]
  | r :: l, h => by
    have hr := h r (by simp)
    have ih := s3 l (fun x hx => h x (by simp [hx]))
    have f := t4 ⟨r, by omega⟩ ⟨vB l % 16, by omega⟩
    simp only at f
    have e : 256 * vB l + r + (256 * vB l + r) / 16 = 256 * (vB l + vB l / 16) + (r + 16 * (vB l % 16) + r / 16) := by omega
    refine ⟨by simp only [vB]; omega, ?_⟩
    simp only [vB, List.length_cons, mkB, List.map_cons]
    rw [e, land_split (by omega) (by omega), f, ih.2]
theorem okB_map {l : List Nat} (h : okB l) : okB (l.map q1) ∧ (∀ r ∈ (l.map q1).map q2, r ≤ 68 ∧ r % 16 ≤ 4) ∧ ((l.map q1).map q2).map q3 = l.map pc8 := by
  refine ⟨fun r hr => ?_, fun r hr => ?_, ?_⟩
  · obtain ⟨x, hx, rfl⟩ := List.mem_map.mp hr
    exact (t1 ⟨x, h x hx⟩ 0).2.2
  · obtain ⟨y, hy, rfl⟩ := List.mem_map.mp hr
    obtain ⟨x, hx, rfl⟩ := List.mem_map.mp hy
    have := t3 ⟨x, h x hx⟩
    exact ⟨this.2.1, this.2.2.1⟩
  · rw [List.map_map, List.map_map]
    refine List.map_congr_left (fun x hx => ?_)
    exact (t3 ⟨x, h x hx⟩).1
