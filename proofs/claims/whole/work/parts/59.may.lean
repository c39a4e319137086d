/-! may -/
section
variable {FI : Bun → Prop}
theorem d_or (x : Int32) : (∃ b, dOk b ∧ x = gI b) ∨ ((∀ b, dOk b → x ≠ gI b) ∧ ¬ (-1 ≤ x.toInt ∧ x.toInt ≤ 3)) := by
  by_cases h : -1 ≤ x.toInt ∧ x.toInt ≤ 3
  · obtain ⟨o, ho, e⟩ := gI_of (v := x) h.1 (by omega)
    refine Or.inl ⟨o, fun y ey => ?_, e⟩
    rw [ey] at e
    have := ho y ey
    have t := nI_toInt (n := y) (by omega)
    have e2 : x = nI y := e
    rw [e2, t] at h
    omega
  · refine Or.inr ⟨fun b hb e => h ?_, h⟩
    rw [e]
    cases b with
    | none => decide
    | some y =>
      have := hb y rfl
      have t : (gI (some y)).toInt = y := nI_toInt (n := y) (by omega)
      rw [t]; omega
theorem in_d {x : Int32} {post : Int32 → Prop} (h1 : ∀ b, dOk b → x = gI b → post 1) (h0 : (∀ b, dOk b → x ≠ gI b) → post 0) : wX6_in x.toInt64 (-1 : Int64) (3 : Int64) post := by
  have el : (-1 : Int64).toInt = -1 := by decide
  have eh : (3 : Int64).toInt = 3 := by decide
  rcases d_or x with ⟨b, hb, e⟩ | ⟨hn, hr⟩
  · refine in_i (fun _ _ => h1 b hb e) (fun hx => absurd ?_ hx)
    rw [el, eh, e]
    cases b with
    | none => decide
    | some y =>
      have := hb y rfl
      have t : (gI (some y)).toInt = y := nI_toInt (n := y) (by omega)
      rw [t]; omega
  · refine in_i (fun p q => absurd ?_ hr) (fun _ => h0 hn)
    rw [el] at p; rw [eh] at q; exact ⟨p, q⟩
theorem isCell5 {x : Int32} {post : Int32 → Prop} (h1 : ∀ c : Nat, c < 16 → x = nI c → post 1) (h0 : (∀ c : Nat, c < 16 → x ≠ nI c) → post 0) : wX5_isCell x post := by
  unfold wX5_isCell
  have e0 : (0 : Int32).toInt = 0 := rfl
  have e16 : (16 : Int32).toInt = 16 := rfl
  rw [fa_lt, fa_le, e0, e16]
  rcases rng_or x 0 15 (by decide) with ⟨k, a, b, e⟩ | ⟨a, b⟩
  · have t := nI_toInt (n := k) (by omega)
    rw [← e] at t
    exact ⟨fun h => by omega, fun _ => ⟨fun h => by omega, fun _ => h1 k (by omega) e⟩⟩
  · have a' : ∀ c : Nat, c < 16 → x ≠ nI c := fun c hc => a c (by omega) (by omega)
    exact ⟨fun _ => h0 a', fun h => ⟨fun _ => h0 a', fun h2 => absurd ⟨by omega, by omega⟩ b⟩⟩
theorem zb_b {a : Int32} (h : zb a) : ∃ b : Bool, a = bI b := by
  rcases h with h | h
  · exact ⟨false, h⟩
  · exact ⟨true, h⟩
theorem lo_may_ok : lo_may (InvG FI) := by
  intro C N S J a1 a2 a3 a4 a5 a6 hz hI
  obtain ⟨n, hn, en⟩ := hI.1.1.1
  have es : S 1 0 = nI n := hI.1.2.1.trans en
  obtain ⟨m, hm, em⟩ := hI.1.1.2.1
  have ms : S 1 1 = nI m := hI.1.2.2.1.trans em
  have hbad : (¬ ∃ t f c d : Nat, ∃ b : Option Nat, t < m ∧ f < n ∧ c < 16 ∧ d < 4 ∧ dOk b ∧ a1 = nI t ∧ a2 = nI f ∧ a3 = nI c ∧ a4 = gI b ∧ a5 = nI d) → wX6_may S J a1 a2 a3 a4 a5 a6 (fun r1 S1 => (-1000000001 : Int32) - nI 0 = r1 ∧ InvG FI (bump5 C 0) N S1 J) := by
    intro hb
    unfold wX6_may
    have no := both (N := N) hI (k := 0) (by decide) e_b
    refine isT6 hm ms (fun t ht et => wj (br_f (by decide) ?_)) (fun _ => wj (br_t rfl no))
    refine isF6' hn es (fun f hf ef => br_f (by decide) ?_) (fun _ => br_t rfl no)
    refine in_r (lo := 0) (hi := 15) (by decide) (by decide) (by decide) (fun c _ hc ec => br_f (by decide) ?_) (fun _ => br_t rfl no)
    refine in_d (fun b hb2 eb => br_f (by decide) ?_) (fun _ => br_t rfl no)
    exact in_r (lo := 0) (hi := 3) (by decide) (by decide) (by decide) (fun d _ hd ed => absurd ⟨t, f, c, d, b, ht, hf, by omega, by omega, hb2, et, ef, ec, eb, ed⟩ hb) (fun _ => br_t rfl no)
  have fb : (¬ ∃ t f c d : Nat, ∃ b : Option Nat, t < m ∧ f < n ∧ c < 16 ∧ d < 4 ∧ dOk b ∧ a1 = nI t ∧ a2 = nI f ∧ a3 = nI c ∧ a4 = gI b ∧ a5 = nI d) → wX5_finding C N 0 (fun r C1 => wX6_may S J a1 a2 a3 a4 a5 a6 (fun r1 S1 => r = r1 ∧ InvG FI C1 N S1 J)) := fun h => find5 (k := 0) (by decide) (hbad h)
  unfold wX5_may
  refine hasT5 hm em (fun t ht et => wj (br_f (by decide) ?_)) (fun h1 => wj (br_t rfl (fb (fun ⟨t, _, _, _, _, ht, _, _, _, _, e, _⟩ => h1 t ht e))))
  refine hasF5 hn en (fun f hf ef => br_f (by decide) ?_) (fun h1 => br_t rfl (fb (fun ⟨_, f, _, _, _, _, hf, _, _, _, _, e, _⟩ => h1 f hf e)))
  refine isCell5 (fun c hc ec => br_f (by decide) (wj ?_)) (fun h1 => br_t rfl (fb (fun ⟨_, _, c, _, _, _, _, hc, _, _, _, _, e, _⟩ => h1 c hc e)))
  have e0 : (0 : Int32).toInt = 0 := rfl
  have e4 : (4 : Int32).toInt = 4 := rfl
  have em1 : (-1 : Int32).toInt = -1 := rfl
  rcases d_or a4 with ⟨b, hb, eb⟩ | ⟨hno, hr⟩
  · have rb : -1 ≤ a4.toInt ∧ a4.toInt ≤ 3 := by
      rw [eb]
      cases b with
      | none => decide
      | some y =>
        have := hb y rfl
        have t : (gI (some y)).toInt = y := nI_toInt (n := y) (by omega)
        rw [t]; omega
    refine br_f (fun h => by rw [fa_lt, em1] at h; omega) (br_f (fun h => by rw [fa_le, e4] at h; omega) ?_)
    rcases rng_or a5 0 3 (by decide) with ⟨d, -, hd, ed⟩ | ⟨hno, hr⟩
    · have hd4 : d < 4 := by omega
      refine br_f (by rw [ed]; exact nI_pos (by omega)) (br_t (by rw [ed]; exact nI_lt (b := 4) hd4 (by decide)) ?_)
      obtain ⟨tu, etu⟩ := zb_b hz
      subst et ef ec eb ed etu
      have hf6 : f < 6 := by omega
      have ht6 : t < 6 := by omega
      obtain ⟨k, hk, ek⟩ := hI.1.1.2.2.2.2.1 t ht6
      have sk : S 1 (44 + 2 * t) = nI k := (hI.1.2.2.2.2.2 t ht6).1.trans ek
      have hw := (hI.1.1.2.2.1 f hf6).1 1 (by decide)
      obtain ⟨T, hT, eT⟩ := of_toInt (n := 65536) hw.1 (by omega) (by decide)
      have sT : S 1 (2 + (6 * f + 1)) = nI T := (hI.1.2.2.2.1 _ (by omega)).trans eT
      refine mark5 (w := 1) hf6 (by decide) (cellsBeside5 ⟨vp_in_nI ht6 (by decide), ?_⟩)
      rw [tn_nI (by omega), ek, eT]
      refine mayStep5 hk hc hb hd4 ?_
      rw [cb_bit hT hc]
      have h6 : ∀ R : Int32, R = bI (mayN k (nearN T c) b d tu) → wX6_may S J (nI t) (nI f) (nI c) (gI b) (nI d) (bI tu) (fun r1 S1 => R = r1 ∧ InvG FI C N S1 J) := by
        rintro _ rfl
        unfold wX6_may
        refine isT6 hm ms (fun _ _ _ => wj (br_f (by decide) ?_)) (fun h => absurd rfl (h t ht))
        refine isF6' hn es (fun _ _ _ => br_f (by decide) ?_) (fun h => absurd rfl (h f hf))
        refine in_r (lo := 0) (hi := 15) (by decide) (by decide) (by decide) (fun _ _ _ _ => br_f (by decide) ?_) (fun h => absurd rfl (h c (by omega) (by omega)))
        refine in_d (fun _ _ _ => br_f (by decide) ?_) (fun h => absurd rfl (h b hb))
        refine in_r (lo := 0) (hi := 3) (by decide) (by decide) (by decide) (fun _ _ _ _ => br_f (by decide) ?_) (fun h => absurd rfl (h d (by omega) (by omega)))
        refine mayGo6 (near := nearN T c) ht6 hk sk hb hd4 (fun _ post hp => byTree6 hf6 hc sT hp) ?_
        refine br_b (fun q => ⟨?_, hI⟩) (fun q => ⟨?_, hI⟩)
        · rw [q]; rfl
        · rw [q]; rfl
      refine br_b (fun q => h6 _ ?_) (fun q => h6 _ ?_)
      · rw [q]; rfl
      · rw [q]; rfl
    · have hb := fb (fun ⟨_, _, _, d, _, _, _, _, hd, _, _, _, _, _, e⟩ => hno d (by omega) (by omega) e)
      refine ⟨fun _ => hb, fun hz => ⟨fun h2 => absurd ?_ hr, fun _ => hb⟩⟩
      rw [fa_lt, e0] at hz; rw [fa_lt, e4] at h2
      exact ⟨by omega, by omega⟩
  · have hb := fb (fun ⟨_, _, _, _, b, _, _, _, _, hb, _, _, _, e, _⟩ => hno b hb e)
    refine ⟨fun _ => hb, fun hz => ⟨fun _ => hb, fun h2 => absurd ?_ hr⟩⟩
    rw [fa_lt, em1] at hz; rw [fa_le, e4] at h2
    exact ⟨by omega, by omega⟩
end
