/-! the pool may grow -/
section MO
variable {pl pl' : Pool} {tw : Int → Int} {vf : Int → Int → Int → Int32} {sl : Int} {kd hg : Int → Int} {wks suns : Nat → Option Nat} {shw : Nat → Int64} {ex nt : Int → Int} {ww sw gw : Nat → Int64}
theorem wkR2_mono (hp : ∀ z ∈ pl, z ∈ pl') (h : wkR2 pl tw wks) : wkR2 pl' tw wks := fun wk a b => ⟨(h wk a b).1, fun c => by
  obtain ⟨q, h1, h2⟩ := (h wk a b).2 c
  exact ⟨q, h1, hp _ h2⟩⟩
theorem suR_mono (hp : ∀ z ∈ pl, z ∈ pl') (h : suR pl tw suns) : suR pl' tw suns := fun i a b => by
  obtain ⟨q, h1, h2⟩ := h i a b
  exact ⟨q, h1, hp _ h2⟩
theorem CS_mono (hp : ∀ z ∈ pl, z ∈ pl') (C : CS pl tw vf sl kd hg wks shw ex nt ww sw gw) : CS pl' tw vf sl kd hg wks shw ex nt ww sw gw := ⟨⟨C.1.1, C.1.2.1, C.1.2.2.1, wkR2_mono hp C.1.2.2.2⟩, C.2⟩
end MO
