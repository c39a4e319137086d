/-! sheets: sheet, write -/
section
variable {FI : Bun → Prop} {C C1 : Nat → Bun} {N N1 : Nat → Lon} {S S1 : Bun} {J J1 : Lon}
theorem InvG.sheets (h : InvG FI C N S J) (hc : ∀ b, (∀ k, k < 4 → b ≠ k + 7) → C1 b = C b) (hs : ∀ r, r ≠ 30 → r ≠ 31 → S1 r = S r) (q : RH C1 N1 S1 J1) : InvG FI C1 N1 S1 J1 := by
  refine h.of ?_ ?_ ?_ ?_ ?_ q (fun b hb => hc b (isF_ne hb).2.2.2.2.2.2)
  · rw [hc 1 (by omega), hs 1 (by decide) (by decide)]; exact h.1
  · rw [hc 2 (by omega), hs 2 (by decide) (by decide)]; exact h.2.1
  · rw [hc 0 (by omega), hs 0 (by decide) (by decide)]; exact h.2.2.1
  · rw [hc 0 (by omega), hs 4 (by decide) (by decide)]; exact h.2.2.2.1
  · rw [hc 4 (by omega)]
    exact h.2.2.2.2.1.same rfl (by rw [hs 0 (by decide) (by decide)]) rfl (by rw [hs 24 (by decide) (by decide)])
theorem isSheet5 {x : Int32} {post : Int32 → Prop} (h1 : ∀ h : Nat, h < 4 → x = nI h → post 1) (h0 : (∀ h : Nat, h < 4 → x ≠ nI h) → post 0) : wX5_isSheet x post := by
  unfold wX5_isSheet
  have e0 : (0 : Int32).toInt = 0 := rfl
  have e4 : (4 : Int32).toInt = 4 := rfl
  rw [fa_lt, fa_le, e0, e4]
  rcases rng_or x 0 3 (by decide) with ⟨k, a, b, e⟩ | ⟨a, b⟩
  · have t := nI_toInt (n := k) (by omega)
    rw [← e] at t
    exact ⟨fun h => by omega, fun _ => ⟨fun h => by omega, fun _ => h1 k (by omega) e⟩⟩
  · have a' : ∀ c : Nat, c < 4 → x ≠ nI c := fun c hc => a c (by omega) (by omega)
    exact ⟨fun _ => h0 a', fun h => ⟨fun _ => h0 a', fun h2 => absurd ⟨by omega, by omega⟩ b⟩⟩
theorem isOne6 {x : Int32} {post : Int32 → Prop} (h1 : ∀ h : Nat, h < 4 → x = nI h → post 1) (h0 : (∀ h : Nat, h < 4 → x ≠ nI h) → post 0) : wX6_isOne x post := by
  unfold wX6_isOne
  exact in_r (lo := 0) (hi := 3) (by decide) (by decide) (by decide) (fun k _ hk e => ⟨zb1, h1 k (by omega) e⟩) (fun a => ⟨zb0, h0 (fun c hc => a c (by omega) (by omega))⟩)
def okB (a : Int32) : Prop := a = 0 ∨ a = 8 ∨ a = 16 ∨ a = 64
theorem wj_bits {B F : Prop} {a : Int32} (h1 : okB a → B) (h0 : ¬ okB a → F) : wjoin (σ := Unit) (fun _ => B) (fun J10 => ((a = 0 → J10 ()) ∧ (¬ (a = 0) → ((a = (8 : Int32) → J10 ()) ∧ (¬ (a = (8 : Int32)) → ((a = (16 : Int32) → J10 ()) ∧ (¬ (a = (16 : Int32)) → ((a = (64 : Int32) → J10 ()) ∧ (¬ (a = (64 : Int32)) → F))))))))) :=
  wj ⟨fun h => h1 (Or.inl h), fun n1 => ⟨fun h => h1 (Or.inr (Or.inl h)), fun n2 => ⟨fun h => h1 (Or.inr (Or.inr (Or.inl h))), fun n3 => ⟨fun h => h1 (Or.inr (Or.inr (Or.inr h))), fun n4 => h0 (fun z => by
    rcases z with z | z | z | z
    · exact n1 z
    · exact n2 z
    · exact n3 z
    · exact n4 z)⟩⟩⟩⟩
theorem fillL {f : Nat → Int64} {v : Int64} {post : (Nat → Int64) → Prop} (h : ∀ f', (∀ k, k < 40 → f' k = v) → post f') : wJ7_fill_d0a16 f v post := by
  unfold wJ7_fill_d0a16
  refine wl_up2 (fun i x g => x = nI i ∧ ∀ k, k < i → g k = v) 40 ?_ (i := 0) (by decide) ⟨rfl, fun k hk => absurd hk (by omega)⟩
  rintro i x g K hi ⟨rfl, hg⟩ hK
  refine ⟨fun hc => ?_, fun hc => ?_⟩
  · have := (nI_leI (a := 40) (by decide) (by omega)).mp hc
    exact h g (fun k hk => hg k (by omega))
  · have hlt : i < 40 := by
      rcases Nat.lt_or_ge i 40 with h' | h'
      · exact h'
      · exact absurd (nI_le (a := 40) h' (by omega)) hc
    refine ⟨vp_in_nI hlt (by decide), ?_⟩
    rintro _ rfl _ rfl
    rw [tn_nI (by omega)]
    refine hK _ _ hlt ⟨nI_1 i, fun k hk => ?_⟩
    unfold vp_updL
    by_cases e : k = i
    · rw [if_pos e]
    · rw [if_neg e]; exact hg k (by omega)
theorem begin3 {S : Bun} {J : Lon} {a1 a2 : Int32} {post : Bun → Lon → Prop} (h : ∀ S' J', S' 0 0 = a1 → S' 0 1 = (if a1 = 0 then 0 else a2) → (∀ k, k < 40 → J' 3 k = 0) → post S' J') : wX3_begin S J a1 a2 post := by
  unfold wX3_begin
  rintro _ rfl
  have go : ∀ y : Int32, y = (if a1 = 0 then 0 else a2) → ∀ S6 : Bun, S6 = up (up S 0 0 a1) 0 1 y → wJ7_fill_d0a16 (J 3) (0 : Int64) (fun f9 => ∀ J10 : Lon, J10 = va_up J 3 f9 → post S6 J10) := by
    rintro y rfl _ rfl
    refine fillL (fun f' hf => ?_)
    rintro _ rfl
    refine h _ _ ?_ ?_ (fun k hk => ?_)
    · rw [up_ki (by decide), up_ss]
    · rw [up_ss]
    · rw [up_s]; exact hf k hk
  refine wj ⟨fun z => go 0 (by rw [if_pos z]), fun z => go a2 (by rw [if_neg z])⟩
theorem ix40 {h i : Nat} (hh : h < 4) (hi : i < 40) : (40 : Int32) * nI h + nI i = nI (40 * h + i) := by
  rw [fa_lit 40, pk_mul, nI_add]
theorem sheet6 {S : Bun} {J : Lon} {a1 a2 a3 : Int32} {post : Int32 → Bun → Lon → Prop}
    (hb : ((∀ h : Nat, h < 4 → a1 ≠ nI h) ∨ ¬ okB a2) → wX6_finds S J (-1000000001) (fun r s => post r s J))
    (hs : ¬ ((∀ h : Nat, h < 4 → a1 ≠ nI h) ∨ ¬ okB a2) → ¬ (0 ≤ a3) → wX6_finds S J (-1000000007) (fun r s => post r s J))
    (hl : ¬ ((∀ h : Nat, h < 4 → a1 ≠ nI h) ∨ ¬ okB a2) → 0 ≤ a3 → ¬ (a3 ≤ (40 : Int32)) → wX6_finds S J (-1000000001) (fun r s => post r s J))
    (hm : ∀ h : Nat, h < 4 → a1 = nI h → okB a2 → 0 ≤ a3 → a3 ≤ (40 : Int32) → ∀ J' : Lon, (∀ x, J' 32 x = if 40 * h ≤ x ∧ x < 40 * h + 40 then 0 else J 32 x) → post (if a2 = 0 then 0 else a3) (up (up S 30 h a2) 31 h (if a2 = 0 then 0 else a3)) J') : wX6_sheet S J a1 a2 a3 post := by
  unfold wX6_sheet
  refine isOne6 (fun h hh eh => wj (br_f (by decide) ?_)) (fun hno => wj (br_t rfl (hb (Or.inl hno))))
  refine wj_bits (fun ok => ?_) (fun hno => hb (Or.inr hno))
  have good : ¬ ((∀ h : Nat, h < 4 → a1 ≠ nI h) ∨ ¬ okB a2) := by
    rintro (z | z)
    · exact z h hh eh
    · exact z ok
  refine ⟨fun h0 => ⟨fun h40 => ?_, fun h40 => hl good h0 h40⟩, fun h0 => hs good h0⟩
  subst eh
  have vh : vp_in (nI h) 4 := vp_in_nI hh (by decide)
  rw [tn_nI (by omega)]
  refine ⟨vh, ?_⟩
  rintro _ rfl
  have go : ∀ y : Int32, y = (if a2 = 0 then 0 else a3) → vp_in (nI h) 4 ∧ ∀ S18 : Bun, S18 = up (up S 30 h a2) 31 h y → wloop (σ := Int32 × Lon) (fun K21 z => match z with | (x19, J20) => (((40 : Int32) ≤ x19 → vp_in (nI h) 4 ∧ post (S18 31 h) S18 J20) ∧ (¬ ((40 : Int32) ≤ x19) → vp_in (((40 : Int32) * nI h) + x19) 160 ∧ ∀ J27 : Lon, J27 = upL J20 32 (((40 : Int32) * nI h) + x19).toNatClampNeg (0 : Int64) → ∀ x28 : Int32, x28 = x19 + (1 : Int32) → K21 (x28, J27)))) ((0 : Int32), J) := by
    rintro y rfl
    refine ⟨vh, ?_⟩
    rintro _ rfl
    refine wl_up2 (fun i x G => x = nI i ∧ ∀ x, G 32 x = if 40 * h ≤ x ∧ x < 40 * h + i then 0 else J 32 x) 40 ?_ (i := 0) (by decide) ⟨rfl, fun k => by rw [if_neg (by omega)]⟩
    rintro i x G K hi ⟨rfl, hG⟩ hK
    refine ⟨fun hc => ?_, fun hc => ?_⟩
    · have := (nI_leI (a := 40) (by decide) (by omega)).mp hc
      obtain rfl : i = 40 := by omega
      refine ⟨vh, ?_⟩
      have := hm h hh rfl ok h0 h40 G hG
      rw [up_ss]
      exact this
    · have hlt : i < 40 := by
        rcases Nat.lt_or_ge i 40 with h' | h'
        · exact h'
        · exact absurd (nI_le (a := 40) h' (by omega)) hc
      rw [ix40 hh hlt, tn_nI (by omega)]
      refine ⟨vp_in_nI (by omega) (by decide), ?_⟩
      rintro _ rfl _ rfl
      refine hK _ _ hlt ⟨nI_1 i, fun k => ?_⟩
      rw [upL_eq, hG]
      by_cases e : k = 40 * h + i
      · rw [if_pos ⟨rfl, e⟩, if_pos (by omega)]
      · rw [if_neg (fun z => e z.2)]
        by_cases e2 : 40 * h ≤ k ∧ k < 40 * h + i
        · rw [if_pos e2, if_pos (by omega)]
        · rw [if_neg e2, if_neg (by omega)]
  exact wj ⟨fun z => go 0 (by rw [if_pos z]), fun z => go a3 (by rw [if_neg z])⟩
/-- one sheet changes -/
theorem RH.one (h : RH C N S J) {k : Nat} (hk : k < 4) (oc : ∀ j, j < 4 → j ≠ k → C1 (j + 7) = C (j + 7)) (on : ∀ j, j < 4 → j ≠ k → N1 (j + 7) = N (j + 7)) (s0 : ∀ j, j ≠ k → S1 30 j = S 30 j) (s1 : ∀ j, j ≠ k → S1 31 j = S 31 j) (oj : ∀ j, j ≠ k → ∀ i, i < 40 → J1 32 (40 * j + i) = J 32 (40 * j + i)) (own : C1 (k + 7) 0 0 = S1 30 k ∧ C1 (k + 7) 0 1 = S1 31 k ∧ (∃ n : Nat, n ≤ 40 ∧ S1 31 k = nI n) ∧ okB (S1 30 k) ∧ (S1 30 k = 0 → S1 31 k = 0) ∧ ∀ i : Nat, i < 40 → N1 (k + 7) 3 i = J1 32 (40 * k + i)) : RH C1 N1 S1 J1 := by
  intro j hj
  by_cases e : j = k
  · subst e; exact own
  · have := h j hj
    rw [oc j hj e, on j hj e, s0 j e, s1 j e]
    exact ⟨this.1, this.2.1, this.2.2.1, this.2.2.2.1, this.2.2.2.2.1, fun i hi => by rw [oj j e i hi]; exact this.2.2.2.2.2 i hi⟩
theorem lo_sheet_ok : lo_sheet (InvG FI) := by
  intro C N S J a1 a2 a3 hI
  unfold wX5_sheet
  have hb : ((∀ h : Nat, h < 4 → a1 ≠ nI h) ∨ ¬ okB a2) → wX5_finding C N (0 : Int32) (fun r C1 => wX6_sheet S J a1 a2 a3 (fun r1 S1 J1 => r = r1 ∧ InvG FI C1 N S1 J1)) := by
    intro hbad
    refine find5 (k := 0) (by decide) (sheet6 (fun _ => both hI (by decide) e_b) (fun z => absurd hbad z) (fun z => absurd hbad z) (fun h hh eh ok => ?_))
    rcases hbad with z | z
    · exact absurd eh (z h hh)
    · exact absurd ok z
  refine isSheet5 (fun h hh eh => wj (br_f (by decide) ?_)) (fun hno => wj (br_t rfl (hb (Or.inl hno))))
  refine wj_bits (fun ok => ?_) (fun hno => hb (Or.inr hno))
  have good : ¬ ((∀ h : Nat, h < 4 → a1 ≠ nI h) ∨ ¬ okB a2) := by
    rintro (z | z)
    · exact z h hh eh
    · exact z ok
  refine ⟨fun h0 => ⟨fun h40 => ?_, fun h40 => ?_⟩, fun h0 => ?_⟩
  · subst eh
    have vh : vp_in (nI h) 4 := vp_in_nI hh (by decide)
    rw [tn_nI (by omega)]
    refine ⟨vh, begin3 (fun S' J' s0 s1 j3 => ?_)⟩
    rintro _ rfl _ rfl
    refine ⟨vh, ?_⟩
    rw [up_s, s1]
    refine sheet6 (fun z => absurd z good) (fun _ z => absurd h0 z) (fun _ _ z => absurd h40 z) (fun h2 hh2 eh2 _ _ _ J2 hJ2 => ⟨rfl, ?_⟩)
    obtain rfl : h = h2 := (nI_eq (by omega) (by omega)).mp eh2
    refine hI.sheets (fun b hb => up_o (hb h hh)) (fun r h1 h2 => by rw [up_k h2, up_k h1]) (hI.2.2.2.2.2.1.one hh (fun j hj e => up_o (by omega)) (fun j hj e => up_o (by omega)) (fun j e => by rw [up_k (by decide), up_ki e]) (fun j e => by rw [up_ki e, up_k (by decide)]) (fun j e i hi => by rw [hJ2, if_neg (by omega)]) ⟨?_, ?_, ?_, ?_, ?_, ?_⟩)
    · rw [up_s, s0, up_k (by decide), up_ss]
    · rw [up_s, s1, up_ss]
    · rw [up_ss]
      by_cases z : a2 = 0
      · rw [if_pos z]; exact ⟨0, by decide, rfl⟩
      · rw [if_neg z]
        rw [fa_le] at h0 h40
        have t0 : (0 : Int32).toInt = 0 := rfl
        have t40 : (40 : Int32).toInt = 40 := rfl
        obtain ⟨q, hq, e⟩ := of_toInt (x := a3) (n := 41) (by omega) (by omega) (by decide)
        exact ⟨q, by omega, e⟩
    · rw [up_k (by decide), up_ss]; exact ok
    · rw [up_k (by decide), up_ss, up_ss]; exact fun z => if_pos z
    · intro i hi
      rw [up_s, j3 i hi, hJ2, if_pos (by omega)]
  · exact find5 (k := 0) (by decide) (sheet6 (fun z => absurd z good) (fun _ z => absurd h0 z) (fun _ _ _ => both hI (by decide) e_b) (fun _ _ _ _ _ z => absurd z h40))
  · exact find5 (k := 6) (by decide) (sheet6 (fun z => absurd z good) (fun _ _ => both hI (by decide) e_s) (fun _ z => absurd z h0) (fun _ _ _ _ z => absurd z h0))
/-- what is written -/
def nar (b : Int32) (v : Int64) : Int64 := if b = 8 then v.toInt32.toInt8.toInt32.toInt64 else if b = 16 then v.toInt32.toInt16.toInt32.toInt64 else v
theorem narrowed6 {b : Int32} {v : Int64} {post : Int64 → Prop} (h : post (nar b v)) : wX6_narrowed b v post := by
  unfold wX6_narrowed
  unfold nar at h
  refine ⟨fun z => ?_, fun z => ⟨fun z2 => ?_, fun z2 => ?_⟩⟩
  · rw [if_pos z] at h; exact h
  · rw [if_neg z, if_pos z2] at h; exact h
  · rw [if_neg z, if_neg z2] at h; exact h
theorem put3 {S : Bun} {J : Lon} {i : Nat} {v : Int64} (hi : i < 40) {post : Bun → Lon → Prop} (h : post S (upL J 3 i (nar (S 0 0) v))) : wX3_put S J (nI i) v post := by
  unfold wX3_put
  rw [tn_nI (by omega)]
  have vi : vp_in (nI i) 40 := vp_in_nI hi (by decide)
  unfold nar at h
  refine ⟨fun z => ⟨vi, ?_⟩, fun z => ⟨fun z2 => ⟨vi, ?_⟩, fun z2 => ⟨vi, ?_⟩⟩⟩
  · rintro _ rfl
    rw [if_pos z] at h; exact h
  · rintro _ rfl
    rw [if_neg z, if_pos z2] at h; exact h
  · rintro _ rfl
    rw [if_neg z, if_neg z2] at h; exact h
theorem in_ixN {n : Nat} (hn : n ≤ 1000) {x : Int32} {post : Int32 → Prop} (h1 : ∀ f : Nat, f < n → x = nI f → post 1) (h0 : (∀ f : Nat, f < n → x ≠ nI f) → post 0) : wX6_in x.toInt64 0 (nI n - 1).toInt64 post := by
  have e0 : (0 : Int64).toInt = 0 := rfl
  have e1 : ((nI n - 1).toInt64).toInt = (n : Int) - 1 := by
    rw [w64]
    have := pk_sub_toInt (a := n) (b := 1) (by omega) (by decide)
    exact this
  refine in_i ?_ ?_
  · rw [e0, e1]
    intro a b
    obtain ⟨j, hj, e⟩ := of_toInt (x := x) (n := n) a (by omega) (by omega)
    exact h1 j hj e
  · rw [e0, e1]
    intro h
    refine h0 (fun f hf e => h ?_)
    rw [e, nI_toInt (by omega)]
    omega
theorem wrong6 {S : Bun} {J : Lon} {a1 : Int32} {post : Int32 → Prop} (hb : (∀ h : Nat, h < 4 → a1 ≠ nI h) → post (-1000000001)) (hm : ∀ h : Nat, h < 4 → a1 = nI h → S 30 h = 0 → post (-1000000006)) (h0 : ∀ h : Nat, h < 4 → a1 = nI h → S 30 h ≠ 0 → post 0) : wX6_wrong S J a1 post := by
  unfold wX6_wrong
  refine isOne6 (fun h hh eh => br_f (by decide) ?_) (fun hno => br_t rfl (hb hno))
  subst eh
  rw [tn_nI (by omega)]
  exact ⟨vp_in_nI hh (by decide), fun z => hm h hh rfl z, fun z => h0 h hh rfl z⟩
theorem lo_write_ok : lo_write (InvG FI) := by
  intro C N S J a1 a2 a3 hI
  have fin : ∀ (k : Nat), k < 7 → ∀ x : Int32, x = (-1000000001 : Int32) - nI k → wX6_finds S J x (fun r14 S16 => ((-1000000001 : Int32) - nI k).toInt64 = r14.toInt64 ∧ InvG FI (bump5 C k) N S16 J) := fun k hk x hx => find6 hk hx ⟨rfl, inv_bump hI hk⟩
  unfold wX5_write
  refine isSheet5 (fun h hh eh => br_f (by decide) ?_) (fun hno => br_t rfl (find5 (k := 0) (by decide) ?_))
  · subst eh
    obtain ⟨c0, c1, ⟨n, hn, en⟩, ok, z0, cN⟩ := hI.2.2.2.2.2.1 h hh
    have vh : vp_in (nI h) 4 := vp_in_nI hh (by decide)
    rw [tn_nI (by omega), c0, c1]
    refine ⟨vh, fun hz => find5 (k := 5) (by decide) ?_, fun hz => wj ?_⟩
    · unfold wX6_write
      refine wrong6 (fun q => absurd rfl (q h hh)) (fun h2 hh2 e2 q => br_f (by decide) (fin 5 (by decide) _ e_m)) (fun h2 hh2 e2 q => ?_)
      obtain rfl : h = h2 := (nI_eq (by omega) (by omega)).mp e2
      exact absurd hz q
    · have bad : (∀ f : Nat, f < n → a2 ≠ nI f) → wX5_finding C N (0 : Int32) (fun r C1 => wX6_write S J (nI h) a2 a3 (fun r1 S1 J1 => r.toInt64 = r1 ∧ InvG FI C1 N S1 J1)) := by
        intro hno
        refine find5 (k := 0) (by decide) ?_
        unfold wX6_write
        refine wrong6 (fun q => absurd rfl (q h hh)) (fun h2 hh2 e2 q => ?_) (fun h2 hh2 e2 q => br_t rfl ⟨vh, ?_⟩)
        · obtain rfl : h = h2 := (nI_eq (by omega) (by omega)).mp e2
          exact absurd q hz
        · rw [tn_nI (by omega), en]
          exact in_ixN (by omega) (fun f hf e => absurd e (hno f hf)) (fun _ => br_t rfl (fin 0 (by decide) _ e_b))
      rcases rng_or a2 0 39 (by decide) with ⟨i, -, hi, ei⟩ | ⟨hno, hr⟩
      · subst ei
        refine br_f (nI_pos (by omega)) ⟨fun hlt => ?_, fun hlt => bad (fun f hf e => hlt (by rw [en, e]; exact nI_lt hf (by omega)))⟩
        rw [en] at hlt
        have hin : i < n := (nI_ltI (by omega) (by omega)).mp hlt
        refine ⟨vp_in_nI (by omega) (by decide), ?_⟩
        rintro _ rfl
        refine put3 (by omega) ?_
        rintro _ rfl _ rfl
        rw [tn_nI (by omega), va_same]
        unfold wX6_write
        refine wrong6 (fun q => absurd rfl (q h hh)) (fun h2 hh2 e2 q => ?_) (fun h2 hh2 e2 q => br_t rfl ⟨vh, ?_⟩)
        · obtain rfl : h = h2 := (nI_eq (by omega) (by omega)).mp e2
          exact absurd q hz
        · rw [tn_nI (by omega), en]
          refine in_ixN (by omega) (fun f hf e => br_f (by decide) ?_) (fun q => absurd rfl (q i hin))
          have vx : vp_in (nI (40 * h + i)) 160 := vp_in_nI (by omega) (by decide)
          rw [ix40 hh (by omega), tn_nI (by omega)]
          refine ⟨vx, ?_⟩
          rintro _ rfl
          refine ⟨vh, narrowed6 ⟨vx, ?_⟩⟩
          rintro _ rfl
          refine ⟨cN i (by omega), hI.sheets (fun _ _ => rfl) (fun _ _ _ => rfl) (hI.2.2.2.2.2.1.one hh (fun _ _ _ => rfl) (fun j hj e => up_o (by omega)) (fun _ _ => rfl) (fun _ _ => rfl) (fun j e i2 hi2 => by rw [upL_eq, if_neg (by omega)]) ⟨c0, c1, ⟨n, hn, en⟩, ok, z0, fun i2 hi2 => ?_⟩)⟩
          rw [up_s, upL_eq, upL_eq, c0]
          by_cases e : i2 = i
          · rw [if_pos ⟨rfl, e⟩, if_pos ⟨rfl, by omega⟩]
          · rw [if_neg (fun z => e z.2), if_neg (by omega)]; exact cN i2 hi2
      · have nof : ∀ f : Nat, f < n → a2 ≠ nI f := fun f hf => hno f (by omega) (by omega)
        refine ⟨fun _ => bad nof, fun hz => ⟨fun h2 => absurd ?_ hr, fun _ => bad nof⟩⟩
        have e0 : (0 : Int32).toInt = 0 := rfl
        rw [fa_lt, e0] at hz; rw [en, fa_lt, nI_toInt (by omega)] at h2
        exact ⟨by omega, by omega⟩
  · unfold wX6_write
    exact wrong6 (fun _ => br_f (by decide) (fin 0 (by decide) _ e_b)) (fun h hh e => absurd e (hno h hh)) (fun h hh e => absurd e (hno h hh))
end
