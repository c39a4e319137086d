/-! HOW MANY BITS: bitCount and ones -/
section
def s1N (n : Nat) : Nat := n - ((n / 2) &&& 1431655765)
def s2N (n : Nat) : Nat := (n &&& 858993459) + ((n / 4) &&& 858993459)
def s3N (n : Nat) : Nat := (n + n / 16) &&& 252645135
def s4N (n : Nat) : Nat := n + n / 256
def s5N (n : Nat) : Nat := n + n / 65536
def bcN (n : Nat) : Nat := s5N (s4N (s3N (s2N (s1N n)))) &&& 63
def nib (n : Nat) : Nat := ([0, 1, 1, 2, 1, 2, 2, 3, 1, 2, 2, 3, 2, 3, 3, 4] : List Nat).getD n 0
def pcN (n : Nat) : Nat := nib (n % 16) + nib (n / 16 % 16) + (nib (n / 256 % 16) + nib (n / 4096))
def chk (n : Nat) : Bool := Nat.beq (bcN n) (pcN n) && Nat.ble (n / 2 &&& 1431655765) n && (Nat.beq n 0 || Nat.beq (pcN (n &&& (n - 1)) + 1) (pcN n))
theorem bc_0 : ∀ i, i < 64 → ∀ j, j < 256 → chk (256 * (0 + i) + j) = true := by decide +kernel
theorem bc_1 : ∀ i, i < 64 → ∀ j, j < 256 → chk (256 * (64 + i) + j) = true := by decide +kernel
theorem bc_2 : ∀ i, i < 64 → ∀ j, j < 256 → chk (256 * (128 + i) + j) = true := by decide +kernel
theorem bc_3 : ∀ i, i < 64 → ∀ j, j < 256 → chk (256 * (192 + i) + j) = true := by decide +kernel
theorem chk_ok {n : Nat} (h : n < 65536) : chk n = true := by
  have e : n = 256 * (n / 256) + n % 256 := by omega
  have hj : n % 256 < 256 := by omega
  generalize n / 256 = a at e
  generalize n % 256 = b at e hj
  have ha : a < 256 := by omega
  rw [e]
  rcases Nat.lt_or_ge a 64 with h1 | h1
  · have := bc_0 a h1 b hj
    rwa [Nat.zero_add] at this
  · rcases Nat.lt_or_ge a 128 with h2 | h2
    · have := bc_1 (a - 64) (by omega) b hj
      rwa [show 64 + (a - 64) = a by omega] at this
    · rcases Nat.lt_or_ge a 192 with h3 | h3
      · have := bc_2 (a - 128) (by omega) b hj
        rwa [show 128 + (a - 128) = a by omega] at this
      · have := bc_3 (a - 192) (by omega) b hj
        rwa [show 192 + (a - 192) = a by omega] at this
end
