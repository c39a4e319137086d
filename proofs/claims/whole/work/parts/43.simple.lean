/-! WHAT HOLDS BETWEEN THE CLASS AND THE MODEL, AND THE PLAIN CALLS -/
def RT (T : Bun) (S : Bun) : Prop := ∃ n : Nat, n ≤ 120 ∧ T 0 1 = nI n ∧ S 0 24 = nI n ∧ ∀ k : Nat, k < 120 → T 1 k = S 24 k ∧ 0 ≤ (T 1 k).toInt ∧ (T 1 k).toInt ≤ 255
def RH (C : Nat → Bun) (N : Nat → Lon) (S : Bun) (J : Lon) : Prop := ∀ h : Nat, h < 4 → C (h + 7) 0 0 = S 30 h ∧ C (h + 7) 0 1 = S 31 h ∧ (∃ n : Nat, n ≤ 40 ∧ S 31 h = nI n) ∧ (S 30 h = 0 ∨ S 30 h = 8 ∨ S 30 h = 16 ∨ S 30 h = 64) ∧ (S 30 h = 0 → S 31 h = 0) ∧ ∀ k : Nat, k < 40 → N (h + 7) 3 k = J 32 (40 * h + k)
def InvG (FI : Bun → Prop) (C : Nat → Bun) (N : Nat → Lon) (S : Bun) (J : Lon) : Prop := (WF (C 1) ∧ RP (C 1) (S 1)) ∧ (WF (C 2) ∧ RP (C 2) (S 2)) ∧ (C 0 0 3 = S 0 4 ∧ zb (S 0 4)) ∧ (∀ k : Nat, k < 7 → C 0 7 k = S 4 k) ∧ RT (C 4) S ∧ RH C N S J ∧ ∀ b : Nat, isF b → FI (C b)
theorem isF_ne {b : Nat} (h : isF b) : b ≠ 0 ∧ b ≠ 1 ∧ b ≠ 2 ∧ b ≠ 3 ∧ b ≠ 4 ∧ b ≠ 5 ∧ ∀ k : Nat, k < 4 → b ≠ k + 7 := by
  rcases h with rfl | ⟨h1, h2⟩
  · exact ⟨by decide, by decide, by decide, by decide, by decide, by decide, fun k hk => by omega⟩
  · exact ⟨by omega, by omega, by omega, by omega, by omega, by omega, fun k hk => by omega⟩
section
variable {FI : Bun → Prop} {C C1 : Nat → Bun} {N N1 : Nat → Lon} {S S1 : Bun} {J J1 : Lon}
/-- what Inv looks at -/
theorem InvG.of (h : InvG FI C N S J) (p1 : WF (C1 1) ∧ RP (C1 1) (S1 1)) (p2 : WF (C1 2) ∧ RP (C1 2) (S1 2)) (p3 : C1 0 0 3 = S1 0 4 ∧ zb (S1 0 4)) (p4 : ∀ k : Nat, k < 7 → C1 0 7 k = S1 4 k) (p5 : RT (C1 4) S1) (p6 : RH C1 N1 S1 J1) (p7 : ∀ b : Nat, isF b → C1 b = C b) : InvG FI C1 N1 S1 J1 := ⟨p1, p2, p3, p4, p5, p6, fun b hb => by rw [p7 b hb]; exact h.2.2.2.2.2.2 b hb⟩
theorem RT.same {T T1 S S1 : Bun} (h : RT T S) (a : T1 0 1 = T 0 1) (b : S1 0 24 = S 0 24) (c : T1 1 = T 1) (d : S1 24 = S 24) : RT T1 S1 := by
  obtain ⟨n, h1, h2, h3, h4⟩ := h
  exact ⟨n, h1, a.trans h2, b.trans h3, by rw [c, d]; exact h4⟩
theorem RH.same (h : RH C N S J) (a : ∀ k : Nat, k < 4 → C1 (k + 7) = C (k + 7)) (b : ∀ k : Nat, k < 4 → N1 (k + 7) = N (k + 7)) (c : S1 30 = S 30) (d : S1 31 = S 31) (e : J1 32 = J 32) : RH C1 N1 S1 J1 := by
  intro k hk
  rw [a k hk, b k hk, c, d, e]
  exact h k hk
/-- a finding -/
def bump5 (C : Nat → Bun) (k : Nat) : Nat → Bun := va_up C 0 (up (C 0) 7 k (C 0 7 k + 1))
def bump6 (S : Bun) (k : Nat) : Bun := up S 4 k (S 4 k + 1)
theorem inv_bump (h : InvG FI C N S J) {k : Nat} (hk : k < 7) : InvG FI (bump5 C k) N (bump6 S k) J := by
  have e : ∀ b, b ≠ 0 → bump5 C k b = C b := fun b hb => up_o hb
  have s : ∀ r, r ≠ 4 → bump6 S k r = S r := fun r hr => up_k hr
  refine h.of ?_ ?_ ?_ ?_ ?_ ?_ (fun b hb => e b (isF_ne hb).1)
  · rw [e 1 (by decide), s 1 (by decide)]; exact h.1
  · rw [e 2 (by decide), s 2 (by decide)]; exact h.2.1
  · rw [s 0 (by decide)]
    have : bump5 C k 0 0 3 = C 0 0 3 := by unfold bump5; rw [up_s, up_k (by decide)]
    rw [this]; exact h.2.2.1
  · intro j hj
    unfold bump5 bump6
    rw [up_s, up_eq, up_eq]
    by_cases hjk : j = k
    · subst hjk
      rw [if_pos ⟨rfl, rfl⟩, if_pos ⟨rfl, rfl⟩, h.2.2.2.1 j hj]
    · rw [if_neg (fun z => hjk z.2), if_neg (fun z => hjk z.2), h.2.2.2.1 j hj]
  · rw [e 4 (by decide)]
    exact h.2.2.2.2.1.same rfl (by rw [s 0 (by decide)]) rfl (by rw [s 24 (by decide)])
  · exact h.2.2.2.2.2.1.same (fun k hk => e _ (by omega)) (fun _ _ => rfl) (s 30 (by decide)) (s 31 (by decide)) rfl
theorem find5 {k : Nat} (hk : k < 7) {post : Int32 → (Nat → Bun) → Prop} (h : post ((-1000000001 : Int32) - nI k) (bump5 C k)) : wX5_finding C N (nI k) post := by
  unfold wX5_finding
  have hi := vp_in_nI (N := 7) hk (by decide)
  rw [tn_nI (by omega)]
  exact ⟨hi, hi, fun _ e => by rw [e]; exact h⟩
theorem find6 {k : Nat} (hk : k < 7) {x : Int32} (hx : x = (-1000000001 : Int32) - nI k) {post : Int32 → Bun → Prop} (h : post ((-1000000001 : Int32) - nI k) (bump6 S k)) : wX6_finds S J x post := by
  unfold wX6_finds
  have e : (-1000000001 : Int32) - x = nI k := by
    rw [hx]
    have : ∀ k, k < 7 → (-1000000001 : Int32) - ((-1000000001 : Int32) - nI k) = nI k := by decide +kernel
    exact this k hk
  have hi := vp_in_nI (N := 7) hk (by decide)
  rw [e, tn_nI (by omega), hx]
  exact ⟨hi, hi, fun _ e => by rw [e]; exact h⟩
theorem both (h : InvG FI C N S J) {k : Nat} (hk : k < 7) {x : Int32} (hx : x = (-1000000001 : Int32) - nI k) : wX6_finds S J x (fun r1 S1 => (-1000000001 : Int32) - nI k = r1 ∧ InvG FI (bump5 C k) N S1 J) := find6 hk hx ⟨rfl, inv_bump h hk⟩
theorem e_b : (-1000000001 : Int32) = (-1000000001 : Int32) - nI 0 := by decide
theorem e_f : (-1000000002 : Int32) = (-1000000001 : Int32) - nI 1 := by decide
theorem e_k : (-1000000003 : Int32) = (-1000000001 : Int32) - nI 2 := by decide
theorem e_n : (-1000000004 : Int32) = (-1000000001 : Int32) - nI 3 := by decide
theorem e_m : (-1000000006 : Int32) = (-1000000001 : Int32) - nI 5 := by decide
theorem e_s : (-1000000007 : Int32) = (-1000000001 : Int32) - nI 6 := by decide
end
/-- a new field, on either side -/
def newF (P P' : Bun) (n : Nat) : Prop := P' 0 0 = nI (n + 1) ∧ P' 0 1 = P 0 1 ∧ (∀ k : Nat, P' 3 k = if 6 * n ≤ k ∧ k < 6 * n + 6 then tbFirst (k - 6 * n) else P 3 k) ∧ (∀ k : Nat, P' 4 k = if k = n then 0 else P 4 k) ∧ P' 5 = P 5 ∧ P' 6 = P 6
theorem addField5 {P : Bun} {n : Nat} (hn : n < 6) (e : P 0 0 = nI n) {post : Int32 → Bun → Prop} (h : ∀ P', newF P P' n → post (nI n) P') : wX1_addField P post := by
  unfold wX1_addField
  intro x1 hx1
  rw [e] at hx1
  subst hx1
  refine wl_up2 (fun i x Q => x = nI i ∧ (∀ k, Q 3 k = if 6 * n ≤ k ∧ k < 6 * n + i then tbFirst (k - 6 * n) else P 3 k) ∧ ∀ r, r ≠ 3 → Q r = P r) 6 ?_ (i := 0) (by decide) ⟨rfl, fun k => by rw [if_neg (by omega)], fun _ _ => rfl⟩
  rintro i x Q K hi ⟨hx, h1, h2⟩ hK
  obtain rfl : x = nI i := hx
  refine ⟨fun hc => ?_, fun hc => ?_⟩
  · obtain rfl : i = 6 := by
      rcases Nat.lt_or_ge i 6 with h6 | h6
      · exact absurd hc (nI_ge h6 (by decide))
      · omega
    refine ⟨vp_in_nI hn (by decide), ?_⟩
    rintro _ rfl _ rfl
    rw [tn_nI (by omega)]
    refine h _ ⟨?_, ?_, ?_, ?_, ?_, ?_⟩
    · rw [up_ss, up_k (by decide), h2 0 (by decide), e]; exact nI_1 n
    · rw [up_ki (by decide), up_k (by decide), h2 0 (by decide)]
    · intro k
      rw [up_k (by decide), up_k (by decide), h1 k]
    · intro k
      rw [up_k (by decide), up_eq, h2 4 (by decide)]
      by_cases hk : k = n
      · rw [if_pos ⟨rfl, hk⟩, if_pos hk]
      · rw [if_neg (fun z => hk z.2), if_neg hk]
    · rw [up_k (by decide), up_k (by decide), h2 5 (by decide)]
    · rw [up_k (by decide), up_k (by decide), h2 6 (by decide)]
  · have h6 : i < 6 := by
      rcases Nat.lt_or_ge i 6 with h6 | h6
      · exact h6
      · exact absurd (nI_le h6 (by omega)) hc
    refine ⟨vp_in_nI h6 (by decide), ?_⟩
    rw [tn_nI (by omega)]
    refine put5 hn h6 ?_
    rintro _ rfl
    refine hK _ _ h6 ⟨nI_1 i, fun k => ?_, fun r hr => ?_⟩
    · show up Q 3 (6 * n + i) (tbFirst i) 3 k = _
      rw [up_eq, h1 k]
      by_cases hk : k = 6 * n + i
      · subst hk
        rw [if_pos ⟨rfl, rfl⟩, if_pos ⟨by omega, by omega⟩, Nat.add_sub_cancel_left]
      · rw [if_neg (fun z => hk z.2)]
        by_cases hk2 : 6 * n ≤ k ∧ k < 6 * n + i
        · rw [if_pos hk2, if_pos ⟨hk2.1, by omega⟩]
        · rw [if_neg hk2, if_neg (by omega)]
    · show up Q 3 (6 * n + i) (tbFirst i) r = _
      rw [up_k hr, h2 r hr]
