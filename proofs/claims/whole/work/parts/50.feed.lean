/-! PLAIN CALLS 6: feed -/
section
variable {FI : Bun → Prop} {C C1 : Nat → Bun} {N N1 : Nat → Lon} {S S1 : Bun} {J J1 : Lon}
/-- a byte of a word, as both take it -/
def byt (a : Int32) (x : Nat) : Int32 := (a >>> (nI (8 * x) &&& 31)) &&& 255
theorem byt_u (a : Int32) {x : Nat} (hx : x < 4) : ((a.toUInt32 >>> ((nI (8 * x)).toUInt32 &&& Int32.toUInt32 31)).toInt32) &&& 255 = byt a x := by
  unfold byt
  refine b_ext (fun i hi => ?_)
  rw [b_and, b_and, b_255, b_ushr (8 * x) (by omega), b_sshr (8 * x) (by omega) a hi]
  by_cases h8 : i < 8
  · rw [if_pos (by omega)]
  · rw [decide_eq_false h8, Bool.and_false, Bool.and_false]
theorem and255 (y : Int32) : 0 ≤ (y &&& 255).toInt ∧ (y &&& 255).toInt ≤ 255 := by
  have h : (y &&& 255).toBitVec.toNat ≤ 255 := by
    rw [Int32.toBitVec_and, BitVec.toNat_and]
    exact Nat.le_trans Nat.and_le_right (by decide)
  have e : (y &&& 255).toInt = (y &&& 255).toBitVec.toInt := rfl
  rw [e, BitVec.toInt_eq_toNat_of_lt (by omega)]
  omega
theorem ix8 : ∀ x, x < 4 → (8 : Int32) * nI x = nI (8 * x) := by decide
/-- what feeding leaves behind -/
def fed (g : Nat → Int32) (a : Int32) (n m i : Nat) (k : Nat) : Int32 := if n ≤ k ∧ k < n + i then byt a (m - 1 - (k - n)) else g k
theorem fed_succ {g : Nat → Int32} {a : Int32} {n m i : Nat} (k : Nat) : fed g a n m (i + 1) k = if k = n + i then byt a (m - 1 - i) else fed g a n m i k := by
  unfold fed
  by_cases h : k = n + i
  · subst h
    rw [if_pos ⟨by omega, by omega⟩, if_pos rfl]
    exact congrArg (byt a) (by omega)
  · rw [if_neg h]
    by_cases h2 : n ≤ k ∧ k < n + i
    · rw [if_pos h2, if_pos ⟨h2.1, by omega⟩]
    · rw [if_neg h2, if_neg (fun z => h2 ⟨z.1, by omega⟩)]
theorem va_twice {α : Type} (f : Nat → α) (k : Nat) (x y : α) : va_up (va_up f k x) k y = va_up f k y := by
  funext j
  rw [vup_eq, vup_eq, vup_eq]
  by_cases h : j = k
  · rw [if_pos h, if_pos h]
  · rw [if_neg h, if_neg h, if_neg h]
theorem lo_feed_ok : lo_feed (InvG FI) := by
  intro C N S J a1 a2 hI
  obtain ⟨n, hn, e5, e6, hk⟩ := hI.2.2.2.2.1
  have e0 : (0 : Int32).toInt = 0 := rfl
  have e1 : (1 : Int32).toInt = 1 := rfl
  have e4 : (4 : Int32).toInt = 4 := rfl
  unfold wX5_feed
  rcases rng_or a2 1 4 (by decide) with ⟨m, hm1, hm4, em⟩ | ⟨hno, hr⟩
  · subst em
    rw [fa_lt, fa_le, e1, e4, nI_toInt (by omega), e5, nI_add]
    refine wj (br_f (by omega) (br_t (by omega) ⟨fun hc => ?_, fun hc => ?_⟩))
    · have hc' : n + m ≤ 120 := (nI_leI (b := 120) (by omega) (by decide)).mp hc
      rintro _ rfl
      refine wl_up2 (fun i x D => x.toInt = (m : Int) - 1 - i ∧ ∃ T : Bun, D = va_up C 4 T ∧ T 0 1 = nI (n + i) ∧ ∀ k : Nat, T 1 k = fed (C 4 1) a1 n m i k) m ?_ (i := 0) (by omega) ⟨?_, C 4, (va_same C 4).symm, e5, fun k => (if_neg (by omega)).symm⟩
      · rintro i x D K hi ⟨ex, T, rfl, t0, t1⟩ hK
        refine ⟨fun h => ?_, fun h => ?_⟩
        · rw [fa_lt, e0] at h
          have him : i = m := by omega
          subst him
          rw [up_s, t0]
          unfold wX6_feed
          refine in_r (lo := 1) (hi := 4) (by decide) (by decide) (by decide) (fun _ _ _ _ => br_f (by decide) ?_) (fun hb => absurd rfl (hb i hm1 hm4))
          rw [e6, nI_add]
          refine br_t (nI_le (b := 120) hc' (by decide)) ?_
          rintro _ rfl
          refine wl_up2 (fun j y S2 => y.toInt = (i : Int) - 1 - j ∧ (∀ r, r ≠ 0 → r ≠ 24 → S2 r = S r) ∧ S2 0 4 = S 0 4 ∧ S2 0 24 = nI (n + j) ∧ ∀ k : Nat, S2 24 k = fed (S 24) a1 n i j k) i ?_ (i := 0) (by omega) ⟨?_, fun _ _ _ => rfl, rfl, e6, fun k => (if_neg (by omega)).symm⟩
          · rintro j y S2 K2 hj ⟨ey, hs, h4, s0, s1⟩ hK2
            refine ⟨fun h => ?_, fun h => ?_⟩
            · rw [fa_lt, e0] at h
              have hji : j = i := by omega
              subst hji
              refine ⟨s0.symm, hI.text hs h4 ⟨n + j, hc', t0, s0, fun k hk' => ?_⟩⟩
              rw [t1, s1]
              unfold fed
              by_cases hin : n ≤ k ∧ k < n + j
              · rw [if_pos hin, if_pos hin]; exact ⟨rfl, and255 _⟩
              · rw [if_neg hin, if_neg hin]; exact hk k hk'
            · rw [fa_lt, e0] at h
              obtain ⟨q, hq, eq⟩ := of_toInt (n := 4) (x := y) (by omega) (by omega) (by decide)
              have eqq : q = i - 1 - j := by rw [eq, nI_toInt (by omega)] at ey; omega
              rw [s0, tn_nI (by omega), eq, ix8 q hq]
              refine ⟨vp_in_nI (by omega) (by decide), ?_⟩
              rintro _ rfl _ rfl _ rfl
              refine hK2 _ _ (by omega) ⟨?_, fun r h0 h24 => by rw [up_k h0, up_k h24]; exact hs r h0 h24, by rw [up_ki (by decide), up_k (by decide)]; exact h4, ?_, fun k => ?_⟩
              · rw [← eq, fb_addI (by rw [ey]; have : (-1 : Int32).toInt = -1 := rfl; omega) (by rw [ey]; have : (-1 : Int32).toInt = -1 := rfl; omega), ey]
                have : (-1 : Int32).toInt = -1 := rfl
                omega
              · rw [up_ss, up_k (by decide), s0]; exact nI_add (n + j) 1
              · rw [up_k (by decide), up_eq, fed_succ]
                by_cases hkk : k = n + j
                · rw [if_pos ⟨rfl, hkk⟩, if_pos hkk, ← eqq]; rfl
                · rw [if_neg (fun z => hkk z.2), if_neg hkk]; exact s1 k
          · rw [fb_subI (by rw [nI_toInt (by omega), e1]; omega) (by rw [nI_toInt (by omega), e1]; omega), nI_toInt (by omega), e1]; omega
        · rw [fa_lt, e0] at h
          obtain ⟨q, hq, eq⟩ := of_toInt (n := 4) (x := x) (by omega) (by omega) (by decide)
          have eqq : q = m - 1 - i := by rw [eq, nI_toInt (by omega)] at ex; omega
          rw [up_s]
          unfold wX4_append
          rw [t0, eq, ix8 q hq, byt_u a1 hq]
          refine br_f (nI_ge (b := 120) (by omega) (by decide)) ⟨vp_in_nI (by omega) (by decide), ?_⟩
          rw [tn_nI (by omega)]
          rintro _ rfl _ rfl _ rfl _ rfl
          refine hK _ _ (by omega) ⟨?_, _, va_twice _ _ _ _, ?_, fun k => ?_⟩
          · rw [← eq, fb_addI (by rw [ex]; have : (-1 : Int32).toInt = -1 := rfl; omega) (by rw [ex]; have : (-1 : Int32).toInt = -1 := rfl; omega), ex]
            have : (-1 : Int32).toInt = -1 := rfl
            omega
          · rw [up_ss, up_k (by decide), t0]; exact nI_add (n + i) 1
          · rw [up_k (by decide), up_eq, fed_succ]
            by_cases hkk : k = n + i
            · rw [if_pos ⟨rfl, hkk⟩, if_pos hkk, ← eqq]
            · rw [if_neg (fun z => hkk z.2), if_neg hkk]; exact t1 k
      · rw [fb_subI (by rw [nI_toInt (by omega), e1]; omega) (by rw [nI_toInt (by omega), e1]; omega), nI_toInt (by omega), e1]; omega
    · refine find5 (k := 1) (by decide) ?_
      unfold wX6_feed
      refine in_r (lo := 1) (hi := 4) (by decide) (by decide) (by decide) (fun _ _ _ _ => br_f (by decide) ?_) (fun hb => absurd rfl (hb m hm1 hm4))
      rw [e6, nI_add]
      exact br_f hc (both hI (by decide) e_f)
  · have hb : wX5_finding C N 0 (fun r C1 => wX6_feed S J a1 a2 (fun r1 S1 => r = r1 ∧ InvG FI C1 N S1 J)) := by
      refine find5 (k := 0) (by decide) ?_
      unfold wX6_feed
      exact in_r (lo := 1) (hi := 4) (by decide) (by decide) (by decide) (fun w h1 hw e => absurd e (hno w h1 hw)) (fun _ => br_t rfl (both hI (by decide) e_b))
    refine wj ⟨fun _ => hb, fun hz => ⟨fun h2 => absurd ?_ hr, fun _ => hb⟩⟩
    rw [fa_lt, e1] at hz; rw [fa_le, e4] at h2
    exact ⟨by omega, by omega⟩
end
