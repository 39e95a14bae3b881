section
/-! how fast the kernel counts: wide words -/
def xs_m : Nat := 2 ^ 1048576 - 12345
def xs_f (m s : Nat) : Nat := Nat.xor (Nat.land (Nat.add s (Nat.shiftRight s 7)) m) (Nat.shiftRight m 1)
def xs_it (m k : Nat) : Nat → Nat := Nat.rec (xs_f m) (fun _ f s => Nat.rec (f 0) (fun n _ => f (Nat.succ n)) (f s)) k
def xs_go (k : Nat) : Bool := Nat.rec false (fun n _ => Nat.ble 1 (xs_it (Nat.succ n) k (Nat.succ n))) xs_m
set_option maxRecDepth 1000000 in
theorem xs_w12 : xs_go 12 = true := by decide +kernel
end
