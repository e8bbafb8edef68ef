/-! the words of the pure predicates (moved here from the machine's parts), ahead of all -/
abbrev Pool : Type := va_W
abbrev ob (ci : Nat) (fs : List Value) : va_E := .inr (ci, fs)
def lp {S : Type} (body : (S → Prop) → S → Prop) : Nat → S → Prop
  | 0, _ => False
  | n + 1, s => body (lp body n) s
theorem lp_of {S : Type} {body : (S → Prop) → S → Prop} (I : S → Prop) (mu : S → Nat) (hs : ∀ (k : S → Prop) (s : S), I s → (∀ s', I s' → mu s' < mu s → k s') → body k s) : ∀ (n : Nat) (s : S), I s → mu s < n → lp body n s
  | 0, s, _, h => absurd h (Nat.not_lt_zero _)
  | n + 1, s, hI, h => hs (lp body n) s hI (fun s' h1 h2 => lp_of I mu hs n s' h1 (by omega))
theorem lp_ex {S : Type} {body : (S → Prop) → S → Prop} (I : S → Prop) (mu : S → Nat) (hs : ∀ (k : S → Prop) (s : S), I s → (∀ s', I s' → mu s' < mu s → k s') → body k s) {s : S} (hI : I s) : ∃ n, lp body n s := ⟨mu s + 1, lp_of I mu hs (mu s + 1) s hI (by omega)⟩
def b01 (r : Int32) : Prop := r = 0 ∨ r = 1
def jrem (x y : Int32) : Int32 := x - x / y * y
def jremL (x y : Int64) : Int64 := x - x / y * y
def eastF : Nat → Int32 := fun j => ([0, 1, 1, 1, 0, -1, -1, -1] : List Int32).getD j 0
def southF : Nat → Int32 := fun j => ([-1, -1, 0, 1, 1, 1, 0, -1] : List Int32).getD j 0
def kLen : List Nat := [175, 8]
def kByt : List (List Int32) := [[104, 111, 117, 115, 101, 32, 116, 114, 101, 101, 32, 97, 114, 99, 97, 100, 101, 32, 97, 119, 110, 105, 110, 103, 32, 115, 104, 117, 116, 32, 119, 97, 116, 101, 114, 32, 115, 117, 110, 32, 119, 97, 108, 107, 101, 114, 32, 119, 104, 101, 110, 32, 102, 114, 111, 109, 32, 111, 118, 101, 114, 32, 112, 97, 99, 101, 32, 98, 101, 97, 114, 115, 32, 109, 101, 110, 100, 115, 32, 105, 99, 101, 32, 104, 111, 116, 32, 99, 111, 111, 108, 32, 97, 110, 100, 32, 111, 114, 32, 110, 111, 116, 32, 109, 105, 110, 117, 116, 101, 32, 100, 97, 121, 32, 110, 111, 114, 116, 104, 32, 110, 111, 114, 116, 104, 101, 97, 115, 116, 32, 101, 97, 115, 116, 32, 115, 111, 117, 116, 104, 101, 97, 115, 116, 32, 115, 111, 117, 116, 104, 32, 115, 111, 117, 116, 104, 119, 101, 115, 116, 32, 119, 101, 115, 116, 32, 110, 111, 114, 116, 104, 119, 101, 115, 116], [40, 41, 60, 61, 43, 45, 42, 59]]
