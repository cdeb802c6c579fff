/-! ===== run: drawing ===== -/
/-- a draw -/
def lt1 (x : Int64) : Int64 := ab_remL (x * Int64.ofInt 48271) (Int64.ofInt 2147483647)
def odd1 (x : Int64) : Bool := decide (ab_remL x (Int64.ofInt 2) = 1)
/-- there is a false end between two places -/
def hasE (D : Nat → Nat) (h t : Nat) : Bool := exb (fun e => decide (D (53 + e) = h ∧ D (61 + e) = t)) (D 5)
/-- the draws at a place, for the first t places towards which -/
def drw (D : Nat → Nat) (k : Nat) (s : Int64 × Nat) : Nat → Int64 × Nat
  | 0 => s
  | t + 1 => if hasE D (D (46 + k)) t then (lt1 (drw D k s t).1, (drw D k s t).2 + (if odd1 (lt1 (drw D k s t).1) then wad D (D (46 + k)) t (D 5) else 0)) else drw D k s t
/-- all of a hound's draws, for the first n places -/
def drs (D : Nat → Nat) (s : Int64 × Nat) : Nat → Int64 × Nat
  | 0 => s
  | n + 1 => drw D n (drs D s n) (D 0)
