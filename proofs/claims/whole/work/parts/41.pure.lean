/-! THE PURE PART: rules for loops and joins, rows, small numbers -/
theorem wl_inv {σ : Type} {body : (σ → Prop) → σ → Prop} (I : σ → Prop) (μ : σ → Nat) (h : ∀ (st : σ) (K : σ → Prop), I st → (∀ st', I st' → μ st' < μ st → K st') → body K st) {st : σ} (h0 : I st) : wloop body st := by
  intro P hP
  have key : ∀ (n : Nat) (st : σ), μ st < n → I st → P st := by
    intro n
    induction n with
    | zero => intro st h; omega
    | succ n ih => intro st hlt hI; exact hP st (h st P hI (fun st' hI' hlt' => ih st' (by omega) hI'))
  exact key _ st (Nat.lt_succ_self _) h0
/-- a loop that counts a Nat up to an end: what stands at each step -/
theorem wl_up {σ : Type} {body : (σ → Prop) → σ → Prop} (I : Nat → σ → Prop) (e : Nat) (h : ∀ (i : Nat) (st : σ) (K : σ → Prop), i ≤ e → I i st → (∀ st', i < e → I (i + 1) st' → K st') → body K st) {st : σ} {i : Nat} (hi : i ≤ e) (h0 : I i st) : wloop body st := by
  intro P hP
  have key : ∀ (n i : Nat) (st : σ), e - i < n → i ≤ e → I i st → P st := by
    intro n
    induction n with
    | zero => intro i st h; omega
    | succ n ih => intro i st hlt hi hI; exact hP st (h i st P hi hI (fun st' hlt' hI' => ih (i + 1) st' (by omega) (by omega) hI'))
  exact key _ i st (Nat.lt_succ_self _) hi h0
theorem wl_up2 {A1 A2 : Type} {body : (A1 × A2 → Prop) → A1 × A2 → Prop} (I : Nat → A1 → A2 → Prop) (e : Nat) (h : ∀ (i : Nat) (a1 : A1) (a2 : A2) (K : A1 × A2 → Prop), i ≤ e → I i a1 a2 → (∀ (b1 : A1) (b2 : A2), i < e → I (i + 1) b1 b2 → K (b1, b2)) → body K (a1, a2)) {a1 : A1} {a2 : A2} {i : Nat} (hi : i ≤ e) (h0 : I i a1 a2) : wloop body (a1, a2) :=
  wl_up (fun i st => match st with | (a1, a2) => I i a1 a2) e (fun i st K hi hI hK => by obtain ⟨a1, a2⟩ := st; exact h i a1 a2 K hi hI (fun b1 b2 hl hI2 => hK (b1, b2) hl hI2)) hi h0
theorem wl_inv2 {A1 A2 : Type} {body : (A1 × A2 → Prop) → A1 × A2 → Prop} (I : A1 → A2 → Prop) (μ : A1 → A2 → Nat) (h : ∀ (a1 : A1) (a2 : A2) (K : A1 × A2 → Prop), I a1 a2 → (∀ (b1 : A1) (b2 : A2), I b1 b2 → μ b1 b2 < μ a1 a2 → K (b1, b2)) → body K (a1, a2)) {a1 : A1} {a2 : A2} (h0 : I a1 a2) : wloop body (a1, a2) :=
  wl_inv (fun st => match st with | (a1, a2) => I a1 a2) (fun st => match st with | (a1, a2) => μ a1 a2) (fun st K hI hK => by obtain ⟨a1, a2⟩ := st; exact h a1 a2 K hI (fun b1 b2 hI2 hl => hK (b1, b2) hI2 hl)) h0
theorem wl_up3 {A1 A2 A3 : Type} {body : (A1 × A2 × A3 → Prop) → A1 × A2 × A3 → Prop} (I : Nat → A1 → A2 → A3 → Prop) (e : Nat) (h : ∀ (i : Nat) (a1 : A1) (a2 : A2) (a3 : A3) (K : A1 × A2 × A3 → Prop), i ≤ e → I i a1 a2 a3 → (∀ (b1 : A1) (b2 : A2) (b3 : A3), i < e → I (i + 1) b1 b2 b3 → K (b1, b2, b3)) → body K (a1, a2, a3)) {a1 : A1} {a2 : A2} {a3 : A3} {i : Nat} (hi : i ≤ e) (h0 : I i a1 a2 a3) : wloop body (a1, a2, a3) :=
  wl_up (fun i st => match st with | (a1, a2, a3) => I i a1 a2 a3) e (fun i st K hi hI hK => by obtain ⟨a1, a2, a3⟩ := st; exact h i a1 a2 a3 K hi hI (fun b1 b2 b3 hl hI2 => hK (b1, b2, b3) hl hI2)) hi h0
theorem wl_inv3 {A1 A2 A3 : Type} {body : (A1 × A2 × A3 → Prop) → A1 × A2 × A3 → Prop} (I : A1 → A2 → A3 → Prop) (μ : A1 → A2 → A3 → Nat) (h : ∀ (a1 : A1) (a2 : A2) (a3 : A3) (K : A1 × A2 × A3 → Prop), I a1 a2 a3 → (∀ (b1 : A1) (b2 : A2) (b3 : A3), I b1 b2 b3 → μ b1 b2 b3 < μ a1 a2 a3 → K (b1, b2, b3)) → body K (a1, a2, a3)) {a1 : A1} {a2 : A2} {a3 : A3} (h0 : I a1 a2 a3) : wloop body (a1, a2, a3) :=
  wl_inv (fun st => match st with | (a1, a2, a3) => I a1 a2 a3) (fun st => match st with | (a1, a2, a3) => μ a1 a2 a3) (fun st K hI hK => by obtain ⟨a1, a2, a3⟩ := st; exact h a1 a2 a3 K hI (fun b1 b2 b3 hI2 hl => hK (b1, b2, b3) hI2 hl)) h0
theorem wl_up4 {A1 A2 A3 A4 : Type} {body : (A1 × A2 × A3 × A4 → Prop) → A1 × A2 × A3 × A4 → Prop} (I : Nat → A1 → A2 → A3 → A4 → Prop) (e : Nat) (h : ∀ (i : Nat) (a1 : A1) (a2 : A2) (a3 : A3) (a4 : A4) (K : A1 × A2 × A3 × A4 → Prop), i ≤ e → I i a1 a2 a3 a4 → (∀ (b1 : A1) (b2 : A2) (b3 : A3) (b4 : A4), i < e → I (i + 1) b1 b2 b3 b4 → K (b1, b2, b3, b4)) → body K (a1, a2, a3, a4)) {a1 : A1} {a2 : A2} {a3 : A3} {a4 : A4} {i : Nat} (hi : i ≤ e) (h0 : I i a1 a2 a3 a4) : wloop body (a1, a2, a3, a4) :=
  wl_up (fun i st => match st with | (a1, a2, a3, a4) => I i a1 a2 a3 a4) e (fun i st K hi hI hK => by obtain ⟨a1, a2, a3, a4⟩ := st; exact h i a1 a2 a3 a4 K hi hI (fun b1 b2 b3 b4 hl hI2 => hK (b1, b2, b3, b4) hl hI2)) hi h0
theorem wl_inv4 {A1 A2 A3 A4 : Type} {body : (A1 × A2 × A3 × A4 → Prop) → A1 × A2 × A3 × A4 → Prop} (I : A1 → A2 → A3 → A4 → Prop) (μ : A1 → A2 → A3 → A4 → Nat) (h : ∀ (a1 : A1) (a2 : A2) (a3 : A3) (a4 : A4) (K : A1 × A2 × A3 × A4 → Prop), I a1 a2 a3 a4 → (∀ (b1 : A1) (b2 : A2) (b3 : A3) (b4 : A4), I b1 b2 b3 b4 → μ b1 b2 b3 b4 < μ a1 a2 a3 a4 → K (b1, b2, b3, b4)) → body K (a1, a2, a3, a4)) {a1 : A1} {a2 : A2} {a3 : A3} {a4 : A4} (h0 : I a1 a2 a3 a4) : wloop body (a1, a2, a3, a4) :=
  wl_inv (fun st => match st with | (a1, a2, a3, a4) => I a1 a2 a3 a4) (fun st => match st with | (a1, a2, a3, a4) => μ a1 a2 a3 a4) (fun st K hI hK => by obtain ⟨a1, a2, a3, a4⟩ := st; exact h a1 a2 a3 a4 K hI (fun b1 b2 b3 b4 hI2 hl => hK (b1, b2, b3, b4) hI2 hl)) h0
theorem wl_up5 {A1 A2 A3 A4 A5 : Type} {body : (A1 × A2 × A3 × A4 × A5 → Prop) → A1 × A2 × A3 × A4 × A5 → Prop} (I : Nat → A1 → A2 → A3 → A4 → A5 → Prop) (e : Nat) (h : ∀ (i : Nat) (a1 : A1) (a2 : A2) (a3 : A3) (a4 : A4) (a5 : A5) (K : A1 × A2 × A3 × A4 × A5 → Prop), i ≤ e → I i a1 a2 a3 a4 a5 → (∀ (b1 : A1) (b2 : A2) (b3 : A3) (b4 : A4) (b5 : A5), i < e → I (i + 1) b1 b2 b3 b4 b5 → K (b1, b2, b3, b4, b5)) → body K (a1, a2, a3, a4, a5)) {a1 : A1} {a2 : A2} {a3 : A3} {a4 : A4} {a5 : A5} {i : Nat} (hi : i ≤ e) (h0 : I i a1 a2 a3 a4 a5) : wloop body (a1, a2, a3, a4, a5) :=
  wl_up (fun i st => match st with | (a1, a2, a3, a4, a5) => I i a1 a2 a3 a4 a5) e (fun i st K hi hI hK => by obtain ⟨a1, a2, a3, a4, a5⟩ := st; exact h i a1 a2 a3 a4 a5 K hi hI (fun b1 b2 b3 b4 b5 hl hI2 => hK (b1, b2, b3, b4, b5) hl hI2)) hi h0
theorem wl_inv5 {A1 A2 A3 A4 A5 : Type} {body : (A1 × A2 × A3 × A4 × A5 → Prop) → A1 × A2 × A3 × A4 × A5 → Prop} (I : A1 → A2 → A3 → A4 → A5 → Prop) (μ : A1 → A2 → A3 → A4 → A5 → Nat) (h : ∀ (a1 : A1) (a2 : A2) (a3 : A3) (a4 : A4) (a5 : A5) (K : A1 × A2 × A3 × A4 × A5 → Prop), I a1 a2 a3 a4 a5 → (∀ (b1 : A1) (b2 : A2) (b3 : A3) (b4 : A4) (b5 : A5), I b1 b2 b3 b4 b5 → μ b1 b2 b3 b4 b5 < μ a1 a2 a3 a4 a5 → K (b1, b2, b3, b4, b5)) → body K (a1, a2, a3, a4, a5)) {a1 : A1} {a2 : A2} {a3 : A3} {a4 : A4} {a5 : A5} (h0 : I a1 a2 a3 a4 a5) : wloop body (a1, a2, a3, a4, a5) :=
  wl_inv (fun st => match st with | (a1, a2, a3, a4, a5) => I a1 a2 a3 a4 a5) (fun st => match st with | (a1, a2, a3, a4, a5) => μ a1 a2 a3 a4 a5) (fun st K hI hK => by obtain ⟨a1, a2, a3, a4, a5⟩ := st; exact h a1 a2 a3 a4 a5 K hI (fun b1 b2 b3 b4 b5 hI2 hl => hK (b1, b2, b3, b4, b5) hI2 hl)) h0
theorem wj {σ : Type} {rest : σ → Prop} {main : (σ → Prop) → Prop} (h : main rest) : wjoin rest main := ⟨rest, fun _ h => h, h⟩
theorem up_eq (S : Bun) (k i : Nat) (v : Int32) (k' i' : Nat) : up S k i v k' i' = if k' = k ∧ i' = i then v else S k' i' := by
  unfold up va_up upd
  by_cases h1 : k' = k
  · subst h1
    by_cases h2 : i' = i
    · simp [h2]
    · simp [h2]
  · simp [h1]
theorem up_ss {S : Bun} {k i : Nat} {v : Int32} : up S k i v k i = v := by rw [up_eq, if_pos ⟨rfl, rfl⟩]
theorem up_ki {S : Bun} {k i j : Nat} {v : Int32} (h : j ≠ i) : up S k i v k j = S k j := by rw [up_eq, if_neg (fun z => h z.2)]
theorem up_k {S : Bun} {k i k' : Nat} {v : Int32} (h : k' ≠ k) : up S k i v k' = S k' := by funext j; rw [up_eq, if_neg (fun z => h z.1)]
theorem upL_eq (S : Lon) (k i : Nat) (v : Int64) (k' i' : Nat) : upL S k i v k' i' = if k' = k ∧ i' = i then v else S k' i' := by
  unfold upL va_up vp_updL
  by_cases h1 : k' = k
  · subst h1
    by_cases h2 : i' = i
    · simp [h2]
    · simp [h2]
  · simp [h1]
theorem vup_eq {α : Type} (f : Nat → α) (k : Nat) (v : α) (j : Nat) : va_up f k v j = if j = k then v else f j := rfl
/-- literals as nI -/
theorem tn_nI {n : Nat} (h : n < 2 ^ 31) : (nI n).toNatClampNeg = n := nI_clamp h
theorem i0 : (0 : Int32) = nI 0 := rfl
theorem i1 : (1 : Int32) = nI 1 := rfl
theorem i2 : (2 : Int32) = nI 2 := rfl
theorem i3 : (3 : Int32) = nI 3 := rfl
theorem i4 : (4 : Int32) = nI 4 := rfl
theorem i5 : (5 : Int32) = nI 5 := rfl
theorem i6 : (6 : Int32) = nI 6 := rfl
theorem i7 : (7 : Int32) = nI 7 := rfl
theorem c0' : (0 : Int32).toNatClampNeg = 0 := rfl
theorem c1' : (1 : Int32).toNatClampNeg = 1 := rfl
theorem vin0 : vp_in (0 : Int32) 56 := by unfold vp_in; decide
theorem vin1 : vp_in (1 : Int32) 56 := by unfold vp_in; decide
/-- a number between bounds, of either size -/
theorem lg_lt {x y : Int64} : lg_cmp x y < 0 ↔ x < y := by
  unfold lg_cmp
  by_cases h : y < x
  · have h2 : ¬ x < y := by rw [fa_lt64] at h ⊢; omega
    rw [if_pos h]
    exact ⟨fun z => absurd z (by decide), fun z => absurd z h2⟩
  · by_cases h2 : x = y
    · rw [if_neg h, if_pos h2]
      exact ⟨fun z => absurd z (by decide), fun z => absurd (h2 ▸ z) (by rw [fa_lt64]; omega)⟩
    · rw [if_neg h, if_neg h2]
      refine ⟨fun _ => ?_, fun _ => by decide⟩
      rw [fa_lt64] at h ⊢; rw [fa_eq64] at h2; omega
theorem lg_gt {x y : Int64} : 0 < lg_cmp x y ↔ y < x := by
  unfold lg_cmp
  by_cases h : y < x
  · rw [if_pos h]; exact ⟨fun _ => h, fun _ => by decide⟩
  · by_cases h2 : x = y
    · rw [if_neg h, if_pos h2]; exact ⟨fun z => absurd z (by decide), fun z => absurd z h⟩
    · rw [if_neg h, if_neg h2]; exact ⟨fun z => absurd z (by decide), fun z => absurd z h⟩
theorem in_l {v lo hi : Int64} {post : Int32 → Prop} (h1 : lo.toInt ≤ v.toInt → v.toInt ≤ hi.toInt → post 1) (h0 : ¬ (lo.toInt ≤ v.toInt ∧ v.toInt ≤ hi.toInt) → post 0) : wX6_in v lo hi post := by
  unfold wX6_in
  refine ⟨fun h => h0 ?_, fun h => ⟨fun h2 => h0 ?_, fun h2 => h1 ?_ ?_⟩⟩
  · rw [lg_lt, fa_lt64] at h; omega
  · rw [lg_gt, fa_lt64] at h2; omega
  · rw [lg_lt, fa_lt64] at h; omega
  · rw [lg_gt, fa_lt64] at h2; omega
theorem w64 (x : Int32) : x.toInt64.toInt = x.toInt := by simp
/-- an int between two literals -/
theorem in_i {x : Int32} {lo hi : Int64} {post : Int32 → Prop} (h1 : lo.toInt ≤ x.toInt → x.toInt ≤ hi.toInt → post 1) (h0 : ¬ (lo.toInt ≤ x.toInt ∧ x.toInt ≤ hi.toInt) → post 0) : wX6_in x.toInt64 lo hi post := in_l (by rw [w64]; exact h1) (by rw [w64]; exact h0)
theorem of_toInt {x : Int32} {n : Nat} (h0 : 0 ≤ x.toInt) (h1 : x.toInt < n) (hn : n ≤ 2 ^ 31) : ∃ j : Nat, j < n ∧ x = nI j := by
  refine ⟨x.toInt.toNat, by omega, ?_⟩
  rw [fa_eq, nI_toInt (by omega)]
  omega
theorem zb0 : zb 0 := Or.inl rfl
theorem zb1 : zb 1 := Or.inr rfl
