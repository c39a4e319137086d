/-! bitCount and ones answer the count of bits; colours -/
section
theorem chk_bc {n : Nat} (h : n < 65536) : bcN n = pcN n := by
  have := chk_ok h
  unfold chk at this
  simp only [Bool.and_eq_true] at this
  exact Nat.eq_of_beq_eq_true this.1.1
theorem chk_le {n : Nat} (h : n < 65536) : n / 2 &&& 1431655765 ≤ n := by
  have := chk_ok h
  unfold chk at this
  simp only [Bool.and_eq_true] at this
  exact Nat.le_of_ble_eq_true this.1.2
theorem chk_one {n : Nat} (h : n < 65536) (h0 : n ≠ 0) : pcN (n &&& (n - 1)) + 1 = pcN n := by
  have := chk_ok h
  unfold chk at this
  simp only [Bool.and_eq_true, Bool.or_eq_true] at this
  rcases this.2 with e | e
  · exact absurd (Nat.eq_of_beq_eq_true e) h0
  · exact Nat.eq_of_beq_eq_true e
theorem ush {n : Nat} (hn : n < 2 ^ 32) {k : Nat} (hk : k < 32) : ((nI n).toUInt32 >>> ((nI k).toUInt32 &&& Int32.toUInt32 31)).toInt32 = nI (n / 2 ^ k) := pk_ushrN hn (nI k) k (s_u k hk)
theorem bitCount_n {n : Nat} (h : n < 65536) {post : Int32 → Prop} (hp : post (nI (pcN n))) : wJ6_bitCount_0f7a4 (nI n) post := by
  unfold wJ6_bitCount_0f7a4
  have l1 := chk_le h
  have a1 : s1N n ≤ n := Nat.sub_le _ _
  have a2 : s2N (s1N n) ≤ 858993459 + 858993459 := Nat.add_le_add Nat.and_le_right Nat.and_le_right
  have a3 : s3N (s2N (s1N n)) ≤ 252645135 := Nat.and_le_right
  have a4 : s4N (s3N (s2N (s1N n))) ≤ 252645135 + 252645135 := by
    unfold s4N
    have : s3N (s2N (s1N n)) / 256 ≤ s3N (s2N (s1N n)) := Nat.div_le_self _ _
    omega
  have f1 : nI n - (((nI n).toUInt32 >>> ((1 : Int32).toUInt32 &&& Int32.toUInt32 31)).toInt32 &&& 1431655765) = nI (s1N n) := by
    rw [i1, ush (by omega) (by decide), fa_lit 1431655765, fa_and]
    exact pk_sub l1
  intro x1 e1
  rw [f1] at e1
  intro x2 e2
  have f2 : x2 = nI (s2N (s1N n)) := by
    rw [e2, e1, i2, ush (by omega) (by decide), fa_lit 858993459, fa_and, fa_and, nI_add]; rfl
  intro x3 e3
  have f3 : x3 = nI (s3N (s2N (s1N n))) := by
    rw [e3, f2, i4, ush (by omega) (by decide), fa_lit 252645135, nI_add, fa_and]; rfl
  intro x4 e4
  have f4 : x4 = nI (s4N (s3N (s2N (s1N n)))) := by
    rw [e4, f3, fa_lit 8, ush (by omega) (by decide), nI_add]; rfl
  intro x5 e5
  have f5 : x5 = nI (s5N (s4N (s3N (s2N (s1N n))))) := by
    rw [e5, f4, fa_lit 16, ush (by omega) (by decide), nI_add]; rfl
  have f6 : x5 &&& 63 = nI (bcN n) := by rw [f5, fa_lit 63, fa_and]; rfl
  rw [f6, chk_bc h]
  exact hp
theorem pc_le : ∀ n, n < 16 → nib n ≤ 4 := by decide
theorem pcN_le {n : Nat} (h : n < 65536) : pcN n ≤ 16 := by
  unfold pcN
  have a := pc_le (n % 16) (by omega)
  have b := pc_le (n / 16 % 16) (by omega)
  have c := pc_le (n / 256 % 16) (by omega)
  have d := pc_le (n / 4096) (by omega)
  omega
theorem ones_n {n : Nat} (h : n < 65536) {post : Int32 → Prop} (hp : post (nI (pcN n))) : wX6_ones (nI n) post := by
  unfold wX6_ones
  refine wl_inv2 (fun x y => ∃ m : Nat, m ≤ n ∧ y = nI m ∧ x = nI (pcN n - pcN m) ∧ pcN m ≤ pcN n) (fun _ y => pcN y.toNatClampNeg) ?_ ⟨n, Nat.le_refl _, rfl, by rw [Nat.sub_self]; rfl, Nat.le_refl _⟩
  rintro x y K ⟨m, hm, rfl, rfl, hle⟩ hK
  refine ⟨fun h0 => ?_, fun h0 => ?_⟩
  · have : m = 0 := (nI_eq (b := 0) (by omega) (by decide)).mp h0
    subst this
    exact hp
  · have hm0 : m ≠ 0 := fun z => h0 (by rw [z]; rfl)
    have c1 := chk_one (n := m) (by omega) hm0
    have ml : m &&& (m - 1) ≤ m := Nat.and_le_left
    have q := pcN_le h
    rintro _ rfl _ rfl
    rw [i1, pk_sub (by omega), fa_and, nI_add]
    refine hK _ _ ⟨m &&& (m - 1), by omega, rfl, congrArg nI (by omega), by omega⟩ ?_
    rw [tn_nI (by omega), tn_nI (by omega)]
    omega
end
