/-! BITS -/
def pcN (m : Nat) : Nat :=
  let a := m - ((m / 2) &&& 1431655765)
  let b := (a &&& 858993459) + ((a / 4) &&& 858993459)
  let c := (b + b / 16) &&& 252645135
  let d := c + c / 256
  (d + d / 65536) &&& 63
def nb8 (l : Nat) : Nat := l % 2 + l / 2 % 2 + l / 4 % 2 + l / 8 % 2 + l / 16 % 2 + l / 32 % 2 + l / 64 % 2 + l / 128 % 2
theorem pc_all : ∀ h, h < 256 → ∀ l, l < 256 → pcN (256 * h + l) = nb8 l + nb8 h := by decide +kernel
