/-! PLAIN CALLS 2: team, pace, teamOf, as, set -/
section
variable {FI : Bun → Prop}
theorem rng_or (x : Int32) (lo hi : Nat) (hh : hi < 2 ^ 31) : (∃ k : Nat, lo ≤ k ∧ k ≤ hi ∧ x = nI k) ∨ ((∀ k : Nat, lo ≤ k → k ≤ hi → x ≠ nI k) ∧ ¬ ((lo : Int) ≤ x.toInt ∧ x.toInt ≤ hi)) := by
  by_cases h : (lo : Int) ≤ x.toInt ∧ x.toInt ≤ hi
  · obtain ⟨j, hj, e⟩ := of_toInt (n := hi + 1) (x := x) (by omega) (by omega) (by omega)
    have := nI_toInt (n := j) (by omega)
    rw [e, this] at h
    exact Or.inl ⟨j, by omega, by omega, e⟩
  · refine Or.inr ⟨fun k h1 h2 e => h ?_, h⟩
    rw [e, nI_toInt (by omega)]; omega
theorem in_r {x : Int32} {lo hi : Nat} {l h : Int64} (el : l.toInt = lo) (eh : h.toInt = hi) (hh : hi < 2 ^ 31) {post : Int32 → Prop} (h1 : ∀ k : Nat, lo ≤ k → k ≤ hi → x = nI k → post 1) (h0 : (∀ k : Nat, lo ≤ k → k ≤ hi → x ≠ nI k) → post 0) : wX6_in x.toInt64 l h post := by
  rcases rng_or x lo hi hh with ⟨k, a, b, e⟩ | ⟨a, b⟩
  · refine in_i (fun _ _ => h1 k a b e) (fun hn => absurd ?_ hn)
    rw [el, eh, e, nI_toInt (by omega)]; omega
  · refine in_i (fun p q => absurd ?_ b) (fun _ => h0 a)
    rw [el] at p; rw [eh] at q; exact ⟨p, q⟩
theorem kind5 {x : Int32} {post : Int32 → Prop} (h1 : ∀ k : Nat, k < 6 → x = nI k → post 1) (h0 : (∀ k : Nat, k < 6 → x ≠ nI k) → post 0) : wX5_isKind x post := by
  unfold wX5_isKind
  refine ⟨fun h => h0 (fun f hf ex => ?_), fun h => ⟨fun h2 => h0 (fun f hf ex => ?_), fun h2 => ?_⟩⟩
  · rw [ex] at h; exact nI_pos (by omega) h
  · rw [ex] at h2; exact nI_ge (b := 6) hf (by omega) h2
  · rcases ix_or x (n := 6) (by omega) with ⟨f, hf, ex⟩ | ⟨-, hx | hx⟩
    · exact h1 f hf ex
    · exact absurd hx h
    · exact absurd hx h2
theorem pace5 {x : Int32} {post : Int32 → Prop} (h1 : ∀ k : Nat, 1 ≤ k → k ≤ 9 → x = nI k → post 1) (h0 : (∀ k : Nat, 1 ≤ k → k ≤ 9 → x ≠ nI k) → post 0) : wX5_isPace x post := by
  unfold wX5_isPace
  have e1 : (1 : Int32).toInt = 1 := rfl
  have e9 : (9 : Int32).toInt = 9 := rfl
  rw [fa_lt, fa_lt, e1, e9]
  rcases rng_or x 1 9 (by decide) with ⟨k, a, b, e⟩ | ⟨a, b⟩
  · have := nI_toInt (n := k) (by omega)
    rw [← e] at this
    exact ⟨fun h => by omega, fun _ => ⟨fun h => by omega, fun _ => h1 k a b e⟩⟩
  · exact ⟨fun _ => h0 a, fun h => ⟨fun _ => h0 a, fun h2 => absurd ⟨by omega, by omega⟩ b⟩⟩
theorem ix_t {t : Nat} (ht : t < 6) : (44 : Int32) + 2 * nI t = nI (44 + 2 * t) := (show ∀ t : Nat, t < 6 → (44 : Int32) + 2 * nI t = nI (44 + 2 * t) by decide) t ht
theorem ix_t1 {t : Nat} (ht : t < 6) : (44 : Int32) + 2 * nI t + 1 = nI (45 + 2 * t) := by rw [ix_t ht, i1, nI_add]; exact congrArg nI (by omega)
theorem kindOf6 {S : Bun} {J : Lon} {t : Nat} (ht : t < 6) {post : Int32 → Prop} (h : post (S 1 (44 + 2 * t))) : wX6_kindOf S J (nI t) post := by
  unfold wX6_kindOf
  rw [ix_t ht, tn_nI (by omega)]
  exact ⟨vp_in_nI (by omega) (by decide), h⟩
theorem paceOf6 {S : Bun} {J : Lon} {t : Nat} (ht : t < 6) {post : Int32 → Prop} (h : post (S 1 (45 + 2 * t))) : wX6_paceOf S J (nI t) post := by
  unfold wX6_paceOf
  rw [ix_t1 ht, tn_nI (by omega)]
  exact ⟨vp_in_nI (by omega) (by decide), h⟩
theorem dear6 {S : Bun} {J : Lon} {t : Nat} (ht : t < 6) {k : Nat} (hk : k < 6) (e : S 1 (44 + 2 * t) = nI k) {post : Int32 → Prop} (h : post (tbDear k)) : wX6_dear S J (nI t) post := by
  unfold wX6_dear
  refine kindOf6 ht ?_
  rintro _ rfl
  rw [e]
  match k, hk, h with
  | 0, _, h => exact ⟨fun e => absurd e (by decide), fun e => absurd e (by decide), fun e => absurd e (by decide), fun e => absurd e (by decide), fun e => absurd e (by decide), fun _ => h⟩
  | 1, _, h => exact ⟨fun _ => h, fun e => absurd e (by decide), fun e => absurd e (by decide), fun e => absurd e (by decide), fun e => absurd e (by decide), fun e => absurd e (by decide)⟩
  | 2, _, h => exact ⟨fun e => absurd e (by decide), fun _ => h, fun e => absurd e (by decide), fun e => absurd e (by decide), fun e => absurd e (by decide), fun e => absurd e (by decide)⟩
  | 3, _, h => exact ⟨fun e => absurd e (by decide), fun e => absurd e (by decide), fun _ => h, fun e => absurd e (by decide), fun e => absurd e (by decide), fun e => absurd e (by decide)⟩
  | 4, _, h => exact ⟨fun e => absurd e (by decide), fun e => absurd e (by decide), fun e => absurd e (by decide), fun _ => h, fun e => absurd e (by decide), fun e => absurd e (by decide)⟩
  | 5, _, h => exact ⟨fun e => absurd e (by decide), fun e => absurd e (by decide), fun e => absurd e (by decide), fun e => absurd e (by decide), fun _ => h, fun e => absurd e (by decide)⟩
theorem lo_teamOf_ok : lo_teamOf (InvG FI) := by
  intro C N S J a1 a2 hI
  obtain ⟨n, hn, en⟩ := hI.1.1.2.1
  have es : S 1 1 = nI n := hI.1.2.2.1.trans en
  have hbad : (¬ ∃ t w : Nat, t < n ∧ w ≤ 2 ∧ a1 = nI t ∧ a2 = nI w) → wX6_teamOf S J a1 a2 (fun r1 S1 => (-1000000001 : Int32) - nI 0 = r1 ∧ InvG FI (bump5 C 0) N S1 J) := by
    intro hb
    unfold wX6_teamOf
    refine isT6 hn es (fun t ht ex => wj (br_f (by decide) ?_)) (fun _ => wj (br_t rfl (both hI (by decide) e_b)))
    exact in_r (lo := 0) (hi := 2) (by decide) (by decide) (by decide) (fun w _ hw ew => absurd ⟨t, w, ht, hw, ex, ew⟩ hb) (fun _ => br_t rfl (both hI (by decide) e_b))
  unfold wX5_teamOf
  refine hasT5 hn en (fun t ht ex => wj (br_f (by decide) ?_)) (fun h1 => wj (br_t rfl (find5 (k := 0) (by decide) (hbad (fun ⟨t, _, ht, _, e, _⟩ => h1 t ht e)))))
  have e2 : (2 : Int32).toInt = 2 := rfl
  have e0 : (0 : Int32).toInt = 0 := rfl
  rcases rng_or a2 0 2 (by decide) with ⟨w, -, hw, ew⟩ | ⟨hno, hr⟩
  · subst ex ew
    obtain ⟨k, hk, ek⟩ := hI.1.1.2.2.2.2.1 t (by omega)
    have ht6 : t < 6 := by omega
    have s5 := (hI.1.2.2.2.2.2 t ht6).1
    have s6 := (hI.1.2.2.2.2.2 t ht6).2
    have vt : vp_in (nI t) 6 := vp_in_nI (by omega) (by decide)
    have vk : vp_in (nI k) 6 := vp_in_nI (by omega) (by decide)
    refine br_f (nI_pos (by omega)) (br_t ?_ ?_)
    · rw [fa_le, e2, nI_toInt (by omega)]; omega
    rw [tn_nI (by omega)]
    have h6 : ∀ R : Int32, R = (if w = 0 then C 1 5 t else if w = 1 then C 1 6 t else tbDear k) → wX6_teamOf S J (nI t) (nI w) (fun r1 S1 => R = r1 ∧ InvG FI C N S1 J) := by
      rintro _ rfl
      unfold wX6_teamOf
      refine isT6 hn es (fun _ _ _ => wj (br_f (by decide) ?_)) (fun hb => absurd rfl (hb t ht))
      refine in_r (lo := 0) (hi := 2) (by decide) (by decide) (by decide) (fun _ _ _ _ => br_f (by decide) ?_) (fun hb => absurd rfl (hb w (by omega) hw))
      match w, hw with
      | 0, _ => exact br_t rfl (kindOf6 ht6 ⟨s5.symm, hI⟩)
      | 1, _ => exact br_f (by decide) (br_t rfl (paceOf6 ht6 ⟨s6.symm, hI⟩))
      | 2, _ => exact br_f (by decide) (br_f (by decide) (dear6 ht6 hk (s5.trans ek) ⟨rfl, hI⟩))
    rw [ek, tn_nI (by omega)]
    rw [ek] at h6
    match w, hw, h6 with
    | 0, _, h6 => exact br_t rfl ⟨vt, h6 _ rfl⟩
    | 1, _, h6 => exact br_f (by decide) (br_t rfl ⟨vt, h6 _ rfl⟩)
    | 2, _, h6 => exact br_f (by decide) (br_f (by decide) ⟨vt, vk, h6 _ rfl⟩)
  · have hb := find5 (C := C) (N := N) (k := 0) (by decide) (post := fun r C1 => wX6_teamOf S J a1 a2 (fun r1 S1 => r = r1 ∧ InvG FI C1 N S1 J)) (hbad (fun ⟨_, w, _, hw, _, e⟩ => hno w (by omega) hw e))
    refine ⟨fun _ => hb, fun hz => ⟨fun h2 => absurd ?_ hr, fun _ => hb⟩⟩
    rw [fa_lt, e0] at hz; rw [fa_le, e2] at h2
    exact ⟨by omega, by omega⟩
end
