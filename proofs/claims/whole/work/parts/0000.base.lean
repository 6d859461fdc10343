/-! the pure base: states, reads, writes -/
/-- states: fields' contents by their numbers -/
abbrev HS : Type := Nat → Nat → Int32
def st (h : HS) (k : Nat) (f : Nat → Int32) : HS := fun j => cond (Nat.beq j k) f (h j)
def rd (n : Nat) (f : Nat → Int32) (i : Int32) : Option Int32 := if i < 0 ∨ n ≤ i.toNatClampNeg then none else some (f i.toNatClampNeg)
def wr (n : Nat) (f : Nat → Int32) (i v : Int32) : Option (Nat → Int32) := if i < 0 ∨ n ≤ i.toNatClampNeg then none else some (upd f i.toNatClampNeg v)
def fuel : Nat := 1000
def jn {α β : Sort _} (r : α) (f : α → β) : β := f r
def nz {α β : Type} [OfNat α 0] [DecidableEq α] (y : α) (r : Option β) : Option β := if y = 0 then none else r
def nb {β : Type} (y : Int32) (r : Option β) : Option β := if y = 0 ∨ y = 1 then r else none
def mx (x y : Int32) : Int32 := if x < y then y else x
def mn (x y : Int32) : Int32 := if y < x then y else x
def atv (n : Nat) (f : Nat → Int32) (i : Int32) : Int32 := if i < 0 ∨ n ≤ i.toNatClampNeg then 0 else f i.toNatClampNeg
def ptv (n : Nat) (f : Nat → Int32) (i v : Int32) : Nat → Int32 := if i < 0 ∨ n ≤ i.toNatClampNeg then f else upd f i.toNatClampNeg v
def cpv (n : Nat) (f g : Nat → Int32) : Nat → Int32 := va_cpy f g 0 0 n
