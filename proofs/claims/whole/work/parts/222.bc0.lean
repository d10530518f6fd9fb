/-- how many bits -/
def pop : Nat → Nat := fun n => go 32 n
where go : Nat → Nat → Nat
  | 0, _ => 0
  | f + 1, n => n % 2 + go f (n / 2)
def bc1 (n : Nat) : Nat := n - ((n >>> 1) &&& 1431655765)
def bc2 (n : Nat) : Nat := (n &&& 858993459) + ((n >>> 2) &&& 858993459)
def bc3 (n : Nat) : Nat := (n + (n >>> 4)) &&& 252645135
def bc4 (n : Nat) : Nat := n + (n >>> 8)
def bc5 (n : Nat) : Nat := (n + (n >>> 16)) &&& 63
def bcn (n : Nat) : Nat := bc5 (bc4 (bc3 (bc2 (bc1 n))))
def bchk (m : Nat) : Bool := Nat.rec (motive := fun _ => Bool) true (fun k ih => (Nat.beq (bcn (2 * k)) (bcn k) && Nat.beq (bcn (2 * k + 1)) (bcn k + 1)) && ih) m
theorem bchk_all : bchk 32768 = true := by decide +kernel
