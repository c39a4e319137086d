/-! the count of bits as a count of places -/
section
theorem nib_ct : ∀ i, i < 16 → nib i = fb_ct (fun k => i.testBit k) 4 := by decide
theorem nib_at {n d : Nat} : nib (n / 2 ^ d % 16) = fb_ct (fun k => n.testBit (d + k)) 4 := by
  rw [nib_ct _ (Nat.mod_lt _ (by decide))]
  refine fb_ct_cong (fun k hk => ?_)
  rw [show (16 : Nat) = 2 ^ 4 from rfl, Nat.testBit_mod_two_pow, Nat.testBit_div_two_pow, decide_eq_true hk, Bool.true_and, Nat.add_comm]
theorem pc_ct {n : Nat} (h : n < 65536) : pcN n = fb_ct (fun k => n.testBit k) 16 := by
  have a := nib_at (n := n) (d := 0)
  have b := nib_at (n := n) (d := 4)
  have c := nib_at (n := n) (d := 8)
  have d := nib_at (n := n) (d := 12)
  rw [show n / 2 ^ 12 % 16 = n / 4096 by omega] at d
  rw [show n / 2 ^ 0 % 16 = n % 16 by rw [Nat.pow_zero, Nat.div_one]] at a
  unfold pcN
  rw [a, show n / 16 % 16 = n / 2 ^ 4 % 16 from rfl, b, show n / 256 % 16 = n / 2 ^ 8 % 16 from rfl, c, d]
  have s1 := fb_ct_split (fun k => n.testBit k) 8 8
  have s2 := fb_ct_split (fun k => n.testBit k) 4 4
  have s3 := fb_ct_split (fun k => n.testBit (8 + k)) 4 4
  rw [s1, s2, s3]
  have e0 : (fun k => n.testBit (0 + k)) = (fun k => n.testBit k) := funext fun k => by rw [Nat.zero_add]
  have e3 : (fun k => n.testBit (8 + (4 + k))) = (fun k => n.testBit (12 + k)) := funext fun k => congrArg n.testBit (by omega)
  rw [e0, e3]
theorem bt_nI {n : Nat} {k : Nat} (hk : k < 32) : bt (nI n) k = n.testBit k := by
  unfold bt
  show (BitVec.ofNat 32 n).getLsbD k = _
  rw [BitVec.getLsbD_ofNat, decide_eq_true hk, Bool.true_and]
end
