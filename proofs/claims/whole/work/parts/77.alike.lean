/-! alike -/
def rotN (n : Nat) : Nat → Nat × Nat → Nat × Nat
  | 0, p => p
  | r + 1, p => rotN n r (n - 1 - p.2, p.1)
def trn (n how q : Nat) : Nat := n * (rotN n (how % 4) (if 3 < how then n - 1 - q % n else q % n, q / n)).2 + (rotN n (how % 4) (if 3 < how then n - 1 - q % n else q % n, q / n)).1
def wlk (n how : Nat) : Nat → List Bool → Nat → Nat → Option (List Bool × Nat)
  | 0, _, _, _ => none
  | f + 1, R, q, s => if R.getD q false then some (R, s) else wlk n how f (R.set q true) (trn n how q) (s + 1)
def mlp (N s : Nat) (w : List Nat) : List Nat := if s = 0 then w else (List.range (N + 1)).map (fun k => w.getD k 0 + if s ≤ k then w.getD (k - s) 0 else 0)
def lvs (n how : Nat) : Nat → Nat → List Bool → List Nat → Option (List Nat)
  | 0, _, _, w => some w
  | r + 1, c, R, w => (wlk n how 60 R c 0).bind (fun z => lvs n how r (c + 1) z.1 (mlp (n * n) z.2 w))
def lvL (n how : Nat) : Option (List Nat) := lvs n how (n * n) 0 (List.replicate (n * n) false) (1 :: List.replicate (n * n) 0)
def chU (n k : Nat) : Nat := if k ≤ n then chN n k k else 0
def unS (f r k c : Nat) : Nat → Nat
  | 0 => 0
  | a + 1 => unS f r k c a + if (k - a) % r = 0 then chU f a * chU ((c - f) / r) ((k - a) / r) else 0
def unm (f r k c : Nat) : Nat := unS f r k c (min f k + 1)
def numX (n k : Nat) : Nat := chU (n * n) k + 2 * unm (n % 2) 4 k (n * n) + unm (n % 2) 2 k (n * n) + 2 * unm (if n % 2 = 1 then n else 0) 2 k (n * n) + 2 * unm n 2 k (n * n)
def addL (a b : List Nat) : List Nat := List.zipWith (· + ·) a b
def sumO (n : Nat) : Nat → Option (List Nat)
  | 0 => some (List.replicate (n * n + 1) 0)
  | h + 1 => (sumO n h).bind (fun a => (lvL n h).bind (fun b => if b.length = n * n + 1 then some (addL a b) else none))
def alkC (n : Nat) : Bool := match sumO n 8 with
  | none => false
  | some a => a == (List.range (n * n + 1)).map (numX n)
theorem alk_1 : alkC 1 = true := by decide +kernel
theorem alk_2 : alkC 2 = true := by decide +kernel
theorem alk_3 : alkC 3 = true := by decide +kernel
theorem alk_4 : alkC 4 = true := by decide +kernel
theorem alk_5 : alkC 5 = true := by decide +kernel
theorem alk_6 : alkC 6 = true := by decide +kernel
theorem alk_7 : alkC 7 = true := by decide +kernel
theorem num_chk : (List.range 8).all (fun n => (List.range (n * n + 1)).all (fun k => decide (numX n k < 9223372036854775808))) = true := by decide +kernel
