/-! bricks: what the kernel reckons with -/
def isr (s w : Nat) : Nat → Nat → Nat → Bool
  | 0, _, _ => true
  | n + 1, at', fr => bif (Nat.blt at' w && !(Nat.testBit s at')) then isr s w n (at' + 1) fr else bif (Nat.beq (at' - fr) 2 || Nat.beq (at' - fr) 3) then isr s w n (at' + 1) at' else false
def rr (w : Nat) : Nat → Nat → List Nat
  | 0, s => bif isr (2 * s) w w 1 0 then [2 * s] else []
  | d + 1, s => rr w d s ++ rr w d (s + 2 ^ d)
def layL : Nat → Nat → Nat → Nat → Nat → List Nat
  | 0, _, _, _, _ => []
  | n + 1, w, fr, s, br => if fr = w then [s] else if 8 < br then [] else (if fr + 2 ≤ w then layL n w (fr + 2) (if fr + 2 < w then s ||| 2 ^ (fr + 2) else s) (br + 1) else []) ++ (if fr + 3 ≤ w then layL n w (fr + 3) (if fr + 3 < w then s ||| 2 ^ (fr + 3) else s) (br + 1) else [])
/-- one level more -/
def smz (x : Nat) : List Nat → List Nat → Nat
  | y :: L, c :: v => (if x &&& y = 0 then c else 0) + smz x L v
  | _, _ => 0
def lvl (L v : List Nat) : List Nat := L.map (fun x => smz x L v)
def lsum : List Nat → Nat
  | [] => 0
  | x :: r => x + lsum r
