/-! PLAIN CALLS 5: set, status -/
section
variable {FI : Bun → Prop} {C C1 : Nat → Bun} {N N1 : Nat → Lon} {S S1 : Bun} {J J1 : Lon}
theorem least6 {post : Int32 → Prop} {w : Nat} (hw : w < 6) (h : post (tbLeast w)) : wX6_leastOf (nI w) post := by
  unfold wX6_leastOf
  match w, hw, h with
  | 0, _, h => exact br_f (by decide) (br_f (by decide) h)
  | 1, _, h => exact br_f (by decide) (br_f (by decide) h)
  | 2, _, h => exact br_t rfl h
  | 3, _, h => exact br_f (by decide) (br_t rfl h)
  | 4, _, h => exact br_f (by decide) (br_f (by decide) h)
  | 5, _, h => exact br_f (by decide) (br_f (by decide) h)
theorem most6 {post : Int32 → Prop} {w : Nat} (hw : w < 6) (h : post (tbMost w)) : wX6_mostOf (nI w) post := by
  unfold wX6_mostOf
  match w, hw, h with
  | 0, _, h => exact br_f (by decide) h
  | 1, _, h => exact br_f (by decide) h
  | 2, _, h => exact br_t (by decide) (br_f (by decide) h)
  | 3, _, h => exact br_t (by decide) (br_f (by decide) h)
  | 4, _, h => exact br_t (by decide) (br_t (by decide) (br_t rfl h))
  | 5, _, h => exact br_t (by decide) (br_t (by decide) (br_f (by decide) h))
def okM (w : Nat) (v : Int32) : Prop := (tbLeast w).toInt ≤ v.toInt ∧ v.toInt ≤ (tbMost w).toInt
theorem okM_a : ∀ w, w < 2 → (tbLeast w).toInt = 0 ∧ (tbMost w).toInt = 65535 := by decide
theorem okM_b : ∀ w, w < 4 → 2 ≤ w → (tbLeast w).toInt = -1 ∧ (tbMost w).toInt = 15 := by decide
theorem okM_c : ((tbLeast 4).toInt = 0 ∧ (tbMost 4).toInt = 99) ∧ (tbLeast 5).toInt = 0 ∧ (tbMost 5).toInt = 999 := by decide
theorem WF.mark {P : Bun} (h : WF P) {f w : Nat} {v : Int32} (hf : f < 6) (hw : w < 6) (hv : okM w v) : WF (up P 3 (6 * f + w) v) := by
  obtain ⟨h1, h2, h3, h4, h5, h6⟩ := h
  refine ⟨by rw [up_k (by decide)]; exact h1, by rw [up_k (by decide)]; exact h2, fun g hg => ?_, by rw [up_k (by decide)]; exact h4, by rw [up_k (by decide)]; exact h5, by rw [up_k (by decide), up_k (by decide)]; exact h6⟩
  refine ⟨fun u hu => ?_, fun u hu hu2 => ?_, ?_, ?_⟩
  · rw [up_eq]
    by_cases he : 6 * g + u = 6 * f + w
    · have : u = w := by omega
      subst this
      rw [if_pos ⟨rfl, he⟩]
      obtain ⟨a, b⟩ := okM_a u hu
      unfold okM at hv; omega
    · rw [if_neg (fun z => he z.2)]; exact (h3 g hg).1 u hu
  · rw [up_eq]
    by_cases he : 6 * g + u = 6 * f + w
    · have : u = w := by omega
      subst this
      rw [if_pos ⟨rfl, he⟩]
      obtain ⟨a, b⟩ := okM_b u hu2 hu
      unfold okM at hv; omega
    · rw [if_neg (fun z => he z.2)]; exact (h3 g hg).2.1 u hu hu2
  · rw [up_eq]
    by_cases he : 6 * g + 4 = 6 * f + w
    · have : 4 = w := by omega
      subst this
      rw [if_pos ⟨rfl, he⟩]
      obtain ⟨a, b⟩ := okM_c.1
      unfold okM at hv; omega
    · rw [if_neg (fun z => he z.2)]; exact (h3 g hg).2.2.1
  · rw [up_eq]
    by_cases he : 6 * g + 5 = 6 * f + w
    · have : 5 = w := by omega
      subst this
      rw [if_pos ⟨rfl, he⟩]
      obtain ⟨a, b⟩ := okM_c.2
      unfold okM at hv; omega
    · rw [if_neg (fun z => he z.2)]; exact (h3 g hg).2.2.2
theorem RP.mark {P : Bun} {S : Bun} (h : RP P (S 1)) {j : Nat} (hj : j < 36) (v : Int32) : RP (up P 3 j v) (up S 1 (2 + j) v 1) := by
  obtain ⟨r1, r2, r3, r4, r5⟩ := h
  refine ⟨?_, ?_, fun k hk => ?_, fun k hk => ?_, fun t ht => ?_⟩
  · rw [up_ki (by omega), up_k (by decide)]; exact r1
  · rw [up_ki (by omega), up_k (by decide)]; exact r2
  · rw [up_eq, up_eq]
    by_cases hkf : k = j
    · rw [if_pos ⟨rfl, by omega⟩, if_pos ⟨rfl, hkf⟩]
    · rw [if_neg (by omega), if_neg (by omega)]; exact r3 k hk
  · rw [up_ki (by omega), up_k (by decide)]; exact r4 k hk
  · rw [up_ki (by omega), up_ki (by omega), up_k (by decide), up_k (by decide)]; exact r5 t ht
theorem lo_set_ok : lo_set (InvG FI) := by
  intro C N S J a1 a2 a3 hI
  obtain ⟨n, hn, en⟩ := hI.1.1.1
  have es : S 1 0 = nI n := hI.1.2.1.trans en
  have e5 : (5 : Int32).toInt = 5 := rfl
  have e0 : (0 : Int32).toInt = 0 := rfl
  have hbad : (¬ ∃ f w : Nat, f < n ∧ w < 6 ∧ okM w a3 ∧ a1 = nI f ∧ a2 = nI w) → wX6_set S J a1 a2 a3 (fun r1 S1 => (-1000000001 : Int32) - nI 0 = r1 ∧ InvG FI (bump5 C 0) N S1 J) := by
    intro hb
    unfold wX6_set
    refine isF6' hn es (fun f hf ex => wj (br_f (by decide) ?_)) (fun _ => wj (br_t rfl (both hI (by decide) e_b)))
    refine in_r (lo := 0) (hi := 5) (by decide) (by decide) (by decide) (fun w _ hw ew => br_f (by decide) ?_) (fun _ => br_t rfl (both hI (by decide) e_b))
    rw [ew]
    refine least6 (by omega) (most6 (by omega) ?_)
    refine in_i (fun p q => absurd ⟨f, w, hf, by omega, ⟨by rw [w64] at p; exact p, by rw [w64] at q; exact q⟩, ex, ew⟩ hb) (fun _ => br_t rfl (both hI (by decide) e_b))
  unfold wX5_set
  refine hasF5 hn en (fun f hf ex => wj (br_f (by decide) ?_)) (fun h1 => wj (br_t rfl (find5 (k := 0) (by decide) (hbad (fun ⟨f, _, hf, _, _, e, _⟩ => h1 f hf e)))))
  rcases rng_or a2 0 5 (by decide) with ⟨w, -, hw, ew⟩ | ⟨hno, hr⟩
  · subst ex ew
    have hw6 : w < 6 := by omega
    have vw : vp_in (nI w) 6 := vp_in_nI (by omega) (by decide)
    refine br_f (nI_pos (by omega)) (br_t ?_ ⟨vw, wj ?_⟩)
    · rw [fa_le, e5, nI_toInt (by omega)]; omega
    rw [tn_nI (by omega), fa_lt, fa_le]
    have hb : ¬ okM w a3 → wX5_finding C N 0 (fun r C1 => wX6_set S J (nI f) (nI w) a3 (fun r1 S1 => r = r1 ∧ InvG FI C1 N S1 J)) := fun hv => find5 (k := 0) (by decide) (hbad (fun ⟨f2, w2, hf2, hw2, hv2, _, e2⟩ => hv (by rw [(nI_eq (by omega) (by omega)).mp e2]; exact hv2)))
    refine ⟨fun h => hb (fun z => by unfold okM at z; omega), fun h => ⟨vw, fun h2 => ?_, fun h2 => hb (fun z => by unfold okM at z; omega)⟩⟩
    refine mark5 (by omega) hw6 (put5 (by omega) hw6 ?_)
    rintro _ rfl
    have hv : okM w a3 := ⟨by omega, h2⟩
    unfold wX6_set
    refine isF6' hn es (fun _ _ _ => wj (br_f (by decide) ?_)) (fun hb => absurd rfl (hb f hf))
    refine in_r (lo := 0) (hi := 5) (by decide) (by decide) (by decide) (fun _ _ _ _ => br_f (by decide) ?_) (fun hb => absurd rfl (hb w (by omega) (by omega)))
    refine least6 hw6 (most6 hw6 ?_)
    refine in_i (fun _ _ => br_f (by decide) ?_) (fun hx => absurd ⟨by rw [w64]; exact hv.1, by rw [w64]; exact hv.2⟩ hx)
    refine its6 (by omega) hw6 ?_
    rw [ix_s (by omega) hw6, tn_nI (by omega)]
    refine ⟨vp_in_nI (by omega) (by decide), ?_⟩
    rintro _ rfl
    exact ⟨(hI.1.2.2.2.1 _ (by omega)).symm, hI.now (fun r hr => up_k hr) (hI.1.1.mark (by omega) hw6 hv) (hI.1.2.mark (by omega) _)⟩
  · have hb := find5 (C := C) (N := N) (k := 0) (by decide) (post := fun r C1 => wX6_set S J a1 a2 a3 (fun r1 S1 => r = r1 ∧ InvG FI C1 N S1 J)) (hbad (fun ⟨_, w, _, hw, _, _, e⟩ => hno w (by omega) (by omega) e))
    refine ⟨fun _ => hb, fun hz => ⟨fun h2 => absurd ?_ hr, fun _ => hb⟩⟩
    rw [fa_lt, e0] at hz; rw [fa_le, e5] at h2
    exact ⟨by omega, by omega⟩
def sumTo (g : Nat → Int32) : Nat → Int32
  | 0 => 0
  | n + 1 => sumTo g n + g n
theorem sumTo_cong {g h : Nat → Int32} : ∀ {n : Nat}, (∀ k, k < n → g k = h k) → sumTo g n = sumTo h n
  | 0, _ => rfl
  | n + 1, e => by rw [sumTo, sumTo, e n (by omega), sumTo_cong (fun k hk => e k (by omega))]
theorem sumTo_one (v : Int32) : ∀ j, j < 7 → sumTo (fun k => if k = j then v else 0) 7 = v := by
  intro j hj
  match j, hj with
  | 0, _ => simp [sumTo]
  | 1, _ => simp [sumTo]
  | 2, _ => simp [sumTo]
  | 3, _ => simp [sumTo]
  | 4, _ => simp [sumTo]
  | 5, _ => simp [sumTo]
  | 6, _ => simp [sumTo]
theorem lo_status_ok : lo_status (InvG FI) := by
  intro C N S J a1 hI
  have e7 : (7 : Int32).toInt = 7 := rfl
  have e0 : (0 : Int32).toInt = 0 := rfl
  have em : (-1 : Int32).toInt = -1 := rfl
  have l1 : (-1 : Int64).toInt = -1 := rfl
  have l6 : (6 : Int64).toInt = 6 := rfl
  have h6 : ∀ {post : Int32 → Bun → Prop}, -1 ≤ a1.toInt → a1.toInt < 7 → post (sumTo (fun k => if a1 < 0 ∨ nI k = a1 then S 4 k else 0) 7) S → wX6_status S J a1 post := by
    intro post p q hp
    unfold wX6_status
    refine in_i (fun _ _ => br_f (by decide) ?_) (fun hx => absurd ⟨by omega, by omega⟩ hx)
    refine wl_up2 (fun i x y => x = sumTo (fun k => if a1 < 0 ∨ nI k = a1 then S 4 k else 0) i ∧ y = nI i) 7 ?_ (i := 0) (by decide) ⟨rfl, rfl⟩
    rintro i x y K hi ⟨rfl, rfl⟩ hK
    refine ⟨fun h => ?_, fun h => ?_⟩
    · have : i = 7 := by
        have := (nI_leI (a := 7) (by decide) (by omega)).mp h
        omega
      subst this
      exact hp
    · have hlt : i < 7 := by
        rcases Nat.lt_or_ge i 7 with h' | h'
        · exact h'
        · exact absurd (nI_le (a := 7) h' (by omega)) h
      have go : ∀ v : Int32, v = (if a1 < 0 ∨ nI i = a1 then S 4 i else 0) → ∀ x15 : Int32, x15 = sumTo (fun k => if a1 < 0 ∨ nI k = a1 then S 4 k else 0) i + v → ∀ x16 : Int32, x16 = nI i + 1 → K (x15, x16) := by
        rintro _ rfl _ rfl _ rfl
        exact hK _ _ hlt ⟨rfl, nI_add i 1⟩
      refine wj (wj ?_)
      rw [tn_nI (by omega)]
      have vi : vp_in (nI i) 7 := vp_in_nI (by omega) (by decide)
      exact ⟨fun hz => ⟨vi, go _ (by rw [if_pos (Or.inl hz)])⟩, fun hz => ⟨fun he => ⟨vi, go _ (by rw [if_pos (Or.inr he)])⟩, fun he => go _ (by rw [if_neg (fun z => z.elim hz he)])⟩⟩
  have hbad : ¬ (-1 ≤ a1.toInt ∧ a1.toInt < 7) → wX5_finding C N 0 (fun r C1 => wX6_status S J a1 (fun r1 S1 => r = r1 ∧ InvG FI C1 N S1 J)) := by
    intro hb
    refine find5 (k := 0) (by decide) ?_
    unfold wX6_status
    exact in_i (fun p q => absurd ⟨by omega, by omega⟩ hb) (fun _ => br_t rfl (both hI (by decide) e_b))
  unfold wX5_status
  rw [fa_lt, fa_lt, em, e7]
  refine wj ⟨fun h => hbad (by omega), fun h => ⟨fun h2 => ⟨fun hz => ?_, fun hz => ?_⟩, fun h2 => hbad (by omega)⟩⟩
  · refine wl_up2 (fun i x y => x = sumTo (fun k => C 0 7 k) i ∧ y = nI i) 7 ?_ (i := 0) (by decide) ⟨rfl, rfl⟩
    rintro i x y K hi ⟨rfl, rfl⟩ hK
    refine ⟨fun h => ?_, fun h => ?_⟩
    · have : i = 7 := by
        have := (nI_leI (a := 7) (by decide) (by omega)).mp h
        omega
      subst this
      refine h6 (by omega) h2 ⟨sumTo_cong (fun k hk => ?_), hI⟩
      rw [if_pos (Or.inl hz)]; exact hI.2.2.2.1 k hk
    · have hlt : i < 7 := by
        rcases Nat.lt_or_ge i 7 with h' | h'
        · exact h'
        · exact absurd (nI_le (a := 7) h' (by omega)) h
      rw [tn_nI (by omega)]
      refine ⟨vp_in_nI (by omega) (by decide), ?_⟩
      rintro _ rfl _ rfl
      exact hK _ _ hlt ⟨rfl, nI_add i 1⟩
  · have hz' := hz
    rw [fa_lt, e0] at hz'
    obtain ⟨j, hj, rfl⟩ := of_toInt (n := 7) (x := a1) (by omega) h2 (by decide)
    rw [tn_nI (by omega)]
    refine ⟨vp_in_nI (by omega) (by decide), h6 (by omega) h2 ⟨?_, hI⟩⟩
    rw [hI.2.2.2.1 j hj, ← sumTo_one (S 4 j) j hj]
    refine sumTo_cong (fun k hk => ?_)
    by_cases hkj : k = j
    · rw [if_pos hkj, if_pos (Or.inr (by rw [hkj])), hkj]
    · rw [if_neg hkj, if_neg (fun z => z.elim hz (fun e => hkj ((nI_eq (by omega) (by omega)).mp e)))]
end
