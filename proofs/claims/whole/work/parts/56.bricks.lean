/-! bricks: what the kernel reckons with -/
def isr (s w : Nat) : Nat → Nat → Nat → Bool
  | 0, _, _ => true
  | n + 1, at', fr => bif (Nat.blt at' w && !(Nat.testBit s at')) then isr s w n (at' + 1) fr else bif (Nat.beq (at' - fr) 2 || Nat.beq (at' - fr) 3) then isr s w n (at' + 1) at' else false
def rr (w : Nat) : Nat → Nat → List Nat
  | 0, s => bif isr (2 * s) w w 1 0 then [2 * s] else []
  | d + 1, s => rr w d s ++ rr w d (s + 2 ^ d)
/-- one row out of its bits: n bricks left, seams, end, bits left -/
def lyI (w : Nat) : Nat → Nat → Nat → Nat → Nat × Nat × Nat
  | 0, s, to, lf => (s, to, lf)
  | n + 1, s, to, lf => if to < w then lyI w n (if to + (2 + lf % 2) < w then s ||| 2 ^ (to + (2 + lf % 2)) else s) (to + (2 + lf % 2)) (lf / 2) else (s, to, lf)
def lyR (w k : Nat) : List Nat := if (lyI w 8 0 0 k).2.1 = w ∧ (lyI w 8 0 0 k).2.2 = 0 then [(lyI w 8 0 0 k).1] else []
def lyN (w : Nat) : Nat → Nat → List Nat
  | 0, _ => []
  | n + 1, k => lyR w k ++ lyN w n (k + 1)
/-- one level more -/
def smz (x : Nat) : List Nat → List Nat → Nat
  | y :: L, c :: v => (if x &&& y = 0 then c else 0) + smz x L v
  | _, _ => 0
def lvl (L v : List Nat) : List Nat := L.map (fun x => smz x L v)
def lsum : List Nat → Nat
  | [] => 0
  | x :: r => x + lsum r
