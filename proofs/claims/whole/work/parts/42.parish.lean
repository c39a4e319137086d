/-! THE PARISH ON BOTH SIDES -/
/-- one bit of a mask -/
theorem bit_z {x : Int32} {k : Nat} (hk : k < 32) : ((x >>> (nI k &&& 31)) &&& 1 = 0 ↔ bt x k = false) ∧ ((x >>> (nI k &&& 31)) &&& 1 = 1 ↔ bt x k = true) := by
  have h1 : ∀ i, i < 32 → bt (1 : Int32) i = decide (i = 0) := by decide +kernel
  have e : ∀ i, i < 32 → bt ((x >>> (nI k &&& 31)) &&& 1) i = (decide (i = 0) && bt x k) := by
    intro i hi
    rw [b_and, b_sshr k hk x hi, h1 i hi]
    by_cases h0 : i = 0
    · subst h0
      rw [if_pos (by omega)]
      simp
    · simp [h0]
  have key : (x >>> (nI k &&& 31)) &&& 1 = if bt x k then 1 else 0 := by
    apply b_ext
    intro i hi
    rw [e i hi]
    cases bt x k with
    | true => simp [h1 i hi]
    | false => simp [b_0]
  rw [key]
  cases bt x k <;> simp <;> decide
theorem holds_b {x : Int32} {k : Nat} (hk : k < 32) {post : Int32 → Prop} (h1 : bt x k = true → post 1) (h0 : bt x k = false → post 0) : wX5_holds x (nI k) post := by
  unfold wX5_holds
  refine ⟨fun h => h0 ((bit_z hk).1.mp h), fun h => h1 ?_⟩
  cases hb : bt x k with
  | true => rfl
  | false => exact absurd ((bit_z hk).1.mpr hb) h
theorem has_b {x : Int32} {k : Nat} (hk : k < 32) {post : Int32 → Prop} (h1 : bt x k = true → post 1) (h0 : bt x k = false → post 0) : wX6_has x (nI k) post := by
  unfold wX6_has
  refine ⟨fun h => h1 ((bit_z hk).2.mp h), fun h => h0 ?_⟩
  cases hb : bt x k with
  | false => rfl
  | true => exact absurd ((bit_z hk).2.mpr hb) h
/-- what is so of a parish at all times: n fields, m teams -/
def WF (P : Bun) : Prop := (∃ n : Nat, n ≤ 6 ∧ P 0 0 = nI n) ∧ (∃ m : Nat, m ≤ 6 ∧ P 0 1 = nI m) ∧
  (∀ f : Nat, f < 6 → (∀ w : Nat, w < 2 → 0 ≤ (P 3 (6 * f + w)).toInt ∧ (P 3 (6 * f + w)).toInt ≤ 65535) ∧ (∀ w : Nat, 2 ≤ w → w < 4 → -1 ≤ (P 3 (6 * f + w)).toInt ∧ (P 3 (6 * f + w)).toInt ≤ 15) ∧ (0 ≤ (P 3 (6 * f + 4)).toInt ∧ (P 3 (6 * f + 4)).toInt ≤ 99) ∧ (0 ≤ (P 3 (6 * f + 5)).toInt ∧ (P 3 (6 * f + 5)).toInt ≤ 999)) ∧
  (∀ f : Nat, f < 6 → 0 ≤ (P 4 f).toInt ∧ (P 4 f).toInt ≤ 63) ∧ (∀ t : Nat, t < 6 → ∃ k : Nat, k < 6 ∧ P 5 t = nI k) ∧ (∀ t m : Nat, P 0 1 = nI m → t < m → m ≤ 6 → ∃ k : Nat, 1 ≤ k ∧ k ≤ 9 ∧ P 6 t = nI k)
/-- a parish of the class and the model's row -/
def RP (P : Bun) (s : Nat → Int32) : Prop := s 0 = P 0 0 ∧ s 1 = P 0 1 ∧ (∀ k : Nat, k < 36 → s (2 + k) = P 3 k) ∧ (∀ f : Nat, f < 6 → s (38 + f) = P 4 f) ∧ ∀ t : Nat, t < 6 → s (44 + 2 * t) = P 5 t ∧ s (45 + 2 * t) = P 6 t
/-- a field or a team by its number, or none -/
theorem ix_or (x : Int32) {n : Nat} (hn : n ≤ 6) : (∃ f : Nat, f < n ∧ x = nI f) ∨ (∀ f : Nat, f < n → x ≠ nI f) ∧ (x < 0 ∨ nI n ≤ x) := by
  by_cases h : 0 ≤ x.toInt ∧ x.toInt < n
  · obtain ⟨j, hj, e⟩ := of_toInt h.1 h.2 (by omega)
    exact Or.inl ⟨j, hj, e⟩
  · refine Or.inr ⟨fun f hf e => h ?_, ?_⟩
    · rw [e, nI_toInt (by omega)]; omega
    · rw [fa_lt, fa_le, nI_toInt (by omega)]
      have : (0 : Int32).toInt = 0 := rfl
      rw [this]; omega
theorem hasF5 {P : Bun} {n : Nat} (hn : n ≤ 6) (e : P 0 0 = nI n) {x : Int32} {post : Int32 → Prop} (h1 : ∀ f : Nat, f < n → x = nI f → post 1) (h0 : (∀ f : Nat, f < n → x ≠ nI f) → post 0) : wX1_hasField P x post := by
  unfold wX1_hasField
  rw [e]
  refine ⟨fun h => h0 (fun f hf ex => ?_), fun h => ⟨fun h2 => h0 (fun f hf ex => ?_), fun h2 => ?_⟩⟩
  · rw [ex] at h; exact nI_pos (by omega) h
  · rw [ex] at h2; exact nI_ge hf (by omega) h2
  · rcases ix_or x hn with ⟨f, hf, ex⟩ | ⟨-, hx | hx⟩
    · exact h1 f hf ex
    · exact absurd hx h
    · exact absurd hx h2
theorem hasT5 {P : Bun} {n : Nat} (hn : n ≤ 6) (e : P 0 1 = nI n) {x : Int32} {post : Int32 → Prop} (h1 : ∀ f : Nat, f < n → x = nI f → post 1) (h0 : (∀ f : Nat, f < n → x ≠ nI f) → post 0) : wX1_hasTeam P x post := by
  unfold wX1_hasTeam
  rw [e]
  refine ⟨fun h => h0 (fun f hf ex => ?_), fun h => ⟨fun h2 => h0 (fun f hf ex => ?_), fun h2 => ?_⟩⟩
  · rw [ex] at h; exact nI_pos (by omega) h
  · rw [ex] at h2; exact nI_ge hf (by omega) h2
  · rcases ix_or x hn with ⟨f, hf, ex⟩ | ⟨-, hx | hx⟩
    · exact h1 f hf ex
    · exact absurd hx h
    · exact absurd hx h2
theorem in_ix {n : Nat} (hn : n ≤ 6) {x : Int32} {post : Int32 → Prop} (h1 : ∀ f : Nat, f < n → x = nI f → post 1) (h0 : (∀ f : Nat, f < n → x ≠ nI f) → post 0) : wX6_in x.toInt64 0 (nI n - 1).toInt64 post := by
  have e0 : (0 : Int64).toInt = 0 := rfl
  have e1 : ((nI n - 1).toInt64).toInt = (n : Int) - 1 := by
    rw [w64]
    have := pk_sub_toInt (a := n) (b := 1) (by omega) (by decide)
    exact this
  refine in_i ?_ ?_
  · rw [e0, e1]
    intro a b
    obtain ⟨j, hj, e⟩ := of_toInt (x := x) (n := n) a (by omega) (by omega)
    exact h1 j hj e
  · rw [e0, e1]
    intro h
    refine h0 (fun f hf e => h ?_)
    rw [e, nI_toInt (by omega)]
    omega
theorem isF6' {S : Bun} {J : Lon} {n : Nat} (hn : n ≤ 6) (e : S 1 0 = nI n) {x : Int32} {post : Int32 → Prop} (h1 : ∀ f : Nat, f < n → x = nI f → post 1) (h0 : (∀ f : Nat, f < n → x ≠ nI f) → post 0) : wX6_isField S J x post := by
  unfold wX6_isField
  refine ⟨vin0, ?_⟩
  rw [c0', e]
  exact in_ix hn (fun f hf ex => ⟨zb1, h1 f hf ex⟩) (fun h => ⟨zb0, h0 h⟩)
theorem isT6 {S : Bun} {J : Lon} {n : Nat} (hn : n ≤ 6) (e : S 1 1 = nI n) {x : Int32} {post : Int32 → Prop} (h1 : ∀ f : Nat, f < n → x = nI f → post 1) (h0 : (∀ f : Nat, f < n → x ≠ nI f) → post 0) : wX6_isTeam S J x post := by
  unfold wX6_isTeam
  refine ⟨vin1, ?_⟩
  rw [c1', e]
  exact in_ix hn (fun f hf ex => ⟨zb1, h1 f hf ex⟩) (fun h => ⟨zb0, h0 h⟩)
/-- places of the rows -/
theorem ix_m {f w : Nat} (hf : f < 6) (hw : w < 6) : nI f * 6 + nI w = nI (6 * f + w) := by
  rw [i6, pk_mul, nI_add, Nat.mul_comm]
theorem ix_s {f w : Nat} (hf : f < 6) (hw : w < 6) : (2 + 6 * nI f) + nI w = nI (2 + (6 * f + w)) := by
  rw [i6, i2, pk_mul, nI_add, nI_add, Nat.add_assoc]
theorem mark5 {P : Bun} {f w : Nat} (hf : f < 6) (hw : w < 6) {post : Int32 → Prop} (h : post (P 3 (6 * f + w))) : wX1_mark P (nI f) (nI w) post := by
  unfold wX1_mark
  rw [ix_m hf hw, tn_nI (by omega)]
  exact ⟨vp_in_nI (by omega) (by omega), h⟩
theorem put5 {P : Bun} {f w : Nat} {v : Int32} (hf : f < 6) (hw : w < 6) {post : Bun → Prop} (h : post (up P 3 (6 * f + w) v)) : wX1_putMark P (nI f) (nI w) v post := by
  unfold wX1_putMark
  rw [ix_m hf hw, tn_nI (by omega)]
  exact ⟨vp_in_nI (by omega) (by omega), fun _ e => by rw [e]; exact h⟩
theorem its6 {S : Bun} {J : Lon} {f w : Nat} (hf : f < 6) (hw : w < 6) {post : Int32 → Prop} (h : post (S 1 (2 + (6 * f + w)))) : wX6_its S J (nI f) (nI w) post := by
  unfold wX6_its
  rw [ix_s hf hw, tn_nI (by omega)]
  exact ⟨vp_in_nI (by omega) (by omega), h⟩
/-- the earth of a field -/
def earthOf (st tr : Int32) : Int32 := 65535 &&& ((st ||| tr) ^^^ (-1))
theorem earth5 {P : Bun} {f : Nat} (hf : f < 6) {post : Int32 → Prop} (h : post (earthOf (P 3 (6 * f)) (P 3 (6 * f + 1)))) : wX1_earth P (nI f) post := by
  unfold wX1_earth
  exact mark5 (w := 0) hf (by decide) (mark5 (w := 1) hf (by decide) h)
theorem earth6 {S : Bun} {J : Lon} {f : Nat} (hf : f < 6) {post : Int32 → Prop} (h : post (earthOf (S 1 (2 + (6 * f))) (S 1 (2 + (6 * f + 1))))) : wX6_earth S J (nI f) post := by
  unfold wX6_earth
  exact its6 (w := 0) hf (by decide) (its6 (w := 1) hf (by decide) h)
