/-! ===== sets within a set ===== -/
/-- the sets within a set, falling -/
def enm : Nat → Nat → Nat → List Nat
  | 0, _, _ => []
  | k + 1, S, b => if b = 0 then [] else b :: enm k S ((b - 1) &&& S)
def enmOk : Bool := (List.range 256).all (fun S => (List.range 256).all (fun B => (B == 0 || B &&& S != B) || (enm 256 S S).elem B))
theorem enm_all : enmOk = true := by decide +kernel
