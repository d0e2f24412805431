def nb1 (x : Nat) : Nat := x - (x / 2 &&& 1431655765)
def nb2 (x : Nat) : Nat := (x &&& 858993459) + (x / 4 &&& 858993459)
def nb3 (x : Nat) : Nat := (x + x / 16) &&& 252645135
def nb4 (x : Nat) : Nat := x + x / 256
def nb5 (x : Nat) : Nat := (x + x / 65536) &&& 63
def nbc (x : Nat) : Nat := nb5 (nb4 (nb3 (nb2 (nb1 x))))
set_option maxRecDepth 20000 in
theorem nbc_cnt : ∀ i, i < 128 → ∀ j, j < 256 → nbc (256 * i + j) = cnt (256 * i + j) 15 := by decide +kernel
