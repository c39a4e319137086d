/-! the model's colours: the same two counts -/
section
theorem colours6 {S : Bun} {J : Lon} {f n : Nat} (hf : f < 6) (h : n < 65536) (e : earthOf (S 1 (2 + (6 * f))) (S 1 (2 + (6 * f + 1))) = nI n) {post : Int32 → Prop} (hp : post (nI (colA n 16) - nI (colB n 16))) : wX6_colours S J (nI f) post := by
  unfold wX6_colours
  refine earth6 hf ?_
  rw [e]
  refine wl_up2 (fun i x y => x = nI (colA n i) - nI (colB n i) ∧ y = nI i) 16 ?_ (i := 0) (by decide) ⟨(show (0 : Int32) = nI 0 - nI 0 by decide), rfl⟩
  rintro i x y K hi ⟨rfl, rfl⟩ hK
  refine ⟨fun h => ?_, fun h => ?_⟩
  · have : i = 16 := by
      have := (nI_leI (a := 16) (by decide) (by omega)).mp h
      omega
    subst this
    exact hp
  · have hlt : i < 16 := by
      rcases Nat.lt_or_ge i 16 with h' | h'
      · exact h'
      · exact absurd (nI_le (a := 16) h' (by omega)) h
    have sa : colA n (i + 1) = colA n i + (if n.testBit i && evB i then 1 else 0) := rfl
    have sb : colB n (i + 1) = colB n i + (if n.testBit i && !evB i then 1 else 0) := rfl
    have la : colA n i ≤ i := fb_ct_le _ _
    have lb : colB n i ≤ i := fb_ct_le _ _
    have go : ∀ v : Int32, nI (colA n i) - nI (colB n i) + v = nI (colA n (i + 1)) - nI (colB n (i + 1)) → ∀ x15 : Int32, x15 = nI (colA n i) - nI (colB n i) + v → ∀ x16 : Int32, x16 = nI i + 1 → K (x15, x16) := by
      rintro v hv _ rfl _ rfl
      exact hK _ _ hlt ⟨hv, nI_add i 1⟩
    have t0 : ∀ a, a < 16 → ∀ b, b < 16 → nI a - nI b + 0 = nI a - nI b := by decide +kernel
    have t1 : ∀ a, a < 16 → ∀ b, b < 16 → nI a - nI b + 1 = nI (a + 1) - nI b := by decide +kernel
    have t2 : ∀ a, a < 16 → ∀ b, b < 16 → nI a - nI b + (-1) = nI a - nI (b + 1) := by decide +kernel
    refine has_b (by omega) (fun hb => wj (br_f (by decide) ?_)) (fun hb => wj (br_t rfl ?_))
    · rw [bt_nI (by omega)] at hb
      refine even6 hlt ?_
      by_cases hE : evB i = true
      · rw [if_pos hE]
        refine br_f (by decide) (go 1 ?_)
        rw [sa, sb, hb, hE]
        exact t1 _ (by omega) _ (by omega)
      · rw [if_neg hE]
        have hE' : evB i = false := by
          cases hh : evB i
          · rfl
          · exact absurd hh hE
        refine br_t rfl (go (-1) ?_)
        rw [sa, sb, hb, hE']
        exact t2 _ (by omega) _ (by omega)
    · rw [bt_nI (by omega)] at hb
      refine go 0 ?_
      rw [sa, sb, hb]
      exact t0 _ (by omega) _ (by omega)
end
