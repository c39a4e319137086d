/-! the model's search of lines: mayStand, looks -/
section
variable {n : Nat} {c w v jm : Nat → Nat}
def niB (r : Nat → Nat) (x : Nat) : Nat → Bool
  | 0 => true
  | j + 1 => niB r x j && (r j != x)
theorem ni_cong {r r' : Nat → Nat} {x : Nat} : ∀ {k : Nat}, (∀ i, i < k → r i = r' i) → niB r x k = niB r' x k
  | 0, _ => rfl
  | k + 1, h => by
    show (niB r x k && (r k != x)) = (niB r' x k && (r' k != x))
    rw [ni_cong (fun i hi => h i (by omega)), h k (by omega)]
theorem stand_loop {S : Bun} {r : Nat → Nat} {k : Nat} (hk : k < 6) (hr : ∀ i, i ≤ k → r i < 6) (h16 : ∀ i, i ≤ k → S 16 i = nI (r i)) (b : Bool) {post : Int32 → Prop} (h : post (bI (b && niB r (r k) k))) : wloop (σ := Int32 × Int32) (fun K3 z => match z with | (x1, x2) => ((nI k ≤ x2 → zb x1 ∧ post x1) ∧ (¬ (nI k ≤ x2) → ((x1 = 0 → ∀ x9 : Int32, x9 = x2 + (1 : Int32) → K3 ((0 : Int32), x9)) ∧ (¬ (x1 = 0) → vp_in x2 6 ∧ vp_in (nI k) 6 ∧ (((S 16 x2.toNatClampNeg) = (S 16 k) → ∀ x11 : Int32, x11 = x2 + (1 : Int32) → K3 ((0 : Int32), x11)) ∧ (¬ ((S 16 x2.toNatClampNeg) = (S 16 k)) → ∀ x13 : Int32, x13 = x2 + (1 : Int32) → K3 ((1 : Int32), x13)))))))) (bI b, (0 : Int32)) := by
  refine wl_up2 (fun j x y => x = bI (b && niB r (r k) j) ∧ y = nI j) k ?_ (i := 0) (by omega) ⟨by show bI b = bI (b && true); rw [Bool.and_true], rfl⟩
  rintro j x y KK hj ⟨rfl, rfl⟩ hKK
  have hrk := hr k (by omega)
  refine ⟨fun hc => ?_, fun hc => ?_⟩
  · have := (nI_leI (by omega) (by omega)).mp hc
    obtain rfl : j = k := by omega
    exact ⟨bI_zb _, h⟩
  · have hlt : j < k := by
      rcases Nat.lt_or_ge j k with h' | h'
      · exact h'
      · exact absurd (nI_le h' (by omega)) hc
    have hrj := hr j (by omega)
    have st : niB r (r k) (j + 1) = (niB r (r k) j && (r j != r k)) := rfl
    have nx : ∀ q : Bool, q = (b && niB r (r k) (j + 1)) → ∀ x9 : Int32, x9 = nI j + (1 : Int32) → KK (bI q, x9) := by
      rintro _ rfl _ rfl
      exact hKK _ _ hlt ⟨rfl, nI_1 j⟩
    refine br_b (fun q => nx false ?_) (fun q => ⟨vp_in_nI (by omega) (by decide), vp_in_nI hk (by decide), ?_⟩)
    · rw [st, ← Bool.and_assoc, q]; rfl
    · rw [tn_nI (n := j) (by omega), h16 j (by omega), h16 k (by omega), show nI (r j) = nI (r k) ↔ r j = r k from nI_eq (by omega) (by omega)]
      refine ⟨fun e => nx false ?_, fun e => nx true ?_⟩
      · rw [st, ← Bool.and_assoc, q, e, bne_self_eq_false]; rfl
      · rw [st, ← Bool.and_assoc, q, bne_iff_ne.mpr e]; rfl
def stB (jm r : Nat → Nat) (k : Nat) : Bool := ((k == 0) || (jm (r (k - 1))).testBit (r k)) && niB r (r k) k
theorem mayStand6 {S : Bun} {J : Lon} {r : Nat → Nat} {k : Nat} (hk : k < 6) (hr : ∀ i, i ≤ k → r i < 6) (h16 : ∀ i, i ≤ k → S 16 i = nI (r i)) (hj : ∀ i, i < k → S 1 (38 + r i) = nI (jm (r i))) {post : Int32 → Prop} (h : post (bI (stB jm r k))) : wX6_mayStand S J (nI k) post := by
  unfold wX6_mayStand
  unfold stB at h
  have hrk := hr k (by omega)
  rw [show nI k = 0 ↔ k = 0 from nI_eq (b := 0) (by omega) (by decide), tn_nI (n := k) (by omega)]
  refine ⟨fun z => ?_, fun z => ?_⟩
  · rw [beq_iff_eq.mpr z, Bool.true_or] at h
    exact stand_loop hk hr h16 true h
  · have hr1 := hr (k - 1) (by omega)
    rw [beq_eq_false_iff_ne.mpr z, Bool.false_or] at h
    rw [n_pred (by omega), tn_nI (n := k - 1) (by omega), h16 (k - 1) (by omega), h16 k (by omega), show (38 : Int32) + nI (r (k - 1)) = nI (38 + r (k - 1)) from nI_add 38 _, tn_nI (n := 38 + r (k - 1)) (by omega), hj (k - 1) (by omega)]
    refine ⟨vp_in_nI (by omega) (by decide), vp_in_nI (by omega) (by decide), vp_in_nI hk (by decide), ?_⟩
    refine has_b (by omega) (fun q => br_f (by decide) ?_) (fun q => br_t rfl ?_)
    · rw [bt_nI (by omega)] at q
      rw [q] at h
      rw [← h16 k (by omega)]
      exact stand_loop hk hr h16 true h
    · rw [bt_nI (by omega)] at q
      rw [q] at h
      rw [← h16 k (by omega)]
      exact stand_loop hk hr h16 false h
/-- what the model's search of lines leaves alone, its parish, what it has found -/
def FrL (S0 S : Bun) : Prop := (∀ r, r ≠ 0 → r ≠ 16 → r ≠ 17 → r ≠ 18 → r ≠ 19 → S r = S0 r) ∧ ∀ k, k ≠ 19 → k ≠ 20 → k ≠ 21 → k ≠ 22 → S 0 k = S0 0 k
theorem FrL.rfl' (S : Bun) : FrL S S := ⟨fun _ _ _ _ _ _ => rfl, fun _ _ _ _ _ => rfl⟩
theorem FrL.tr {S0 S1 S2 : Bun} (h : FrL S0 S1) (h2 : FrL S1 S2) : FrL S0 S2 := ⟨fun r a b c d e => (h2.1 r a b c d e).trans (h.1 r a b c d e), fun k a b c d => (h2.2 k a b c d).trans (h.2 k a b c d)⟩
theorem FrL.one {S0 S : Bun} (h : FrL S0 S) : S 1 = S0 1 ∧ S 15 = S0 15 := ⟨h.1 1 (by decide) (by decide) (by decide) (by decide) (by decide), h.1 15 (by decide) (by decide) (by decide) (by decide) (by decide)⟩
theorem frl_16 {S0 S : Bun} (h : FrL S0 S) {k : Nat} {x : Int32} : FrL S0 (up S 16 k x) := ⟨fun r a b c d e => by rw [up_k b]; exact h.1 r a b c d e, fun q a b c d => by rw [up_k (by decide)]; exact h.2 q a b c d⟩
def MC (n : Nat) (c w v jm : Nat → Nat) (S : Bun) : Prop := S 1 0 = nI n ∧ ∀ f, f < n → S 15 f = nI (c f) ∧ S 1 (2 + (6 * f + 4)) = nI (w f) ∧ S 1 (2 + (6 * f + 5)) = nI (v f) ∧ S 1 (38 + f) = nI (jm f)
theorem MC.fr {S0 S : Bun} (h : MC n c w v jm S0) (hf : FrL S0 S) : MC n c w v jm S := by
  unfold MC; rw [hf.one.1, hf.one.2]; exact h
def mxO (c w v : Nat → Nat) (n : Nat) (l : List Nod) : Int32 := match l with
  | [] => -1
  | a :: l => nI (mxY c w v n (a :: l))
theorem mxO_ne {l : List Nod} (h : l ≠ []) : mxO c w v n l = nI (mxY c w v n l) := by
  cases l with
  | nil => exact absurd rfl h
  | cons a l => rfl
def RLn (n : Nat) (c w v : Nat → Nat) (Ls : List Nod) (S : Bun) : Prop := (∀ m ∈ Ls, m.2.2 < 10000 ∧ ylN c w v m.2.1 n ≤ 6000) ∧ S 0 19 = nI Ls.length ∧ S 0 20 = turO (bst Ls) ∧ (∀ m, bst Ls = some m → S 0 21 = nI (ylN c w v m.2.1 n) ∧ (∀ k, k < n → S 18 k = nI (m.2.1 k)) ∧ ∀ k, k < n → S 19 (m.2.1 k) = nI (dyN c w m.2.1 k)) ∧ S 0 22 = mxO c w v n Ls
theorem RLn.same {Ls : List Nod} {S S' : Bun} (h : RLn n c w v Ls S) (h0 : S' 0 = S 0) (h18 : S' 18 = S 18) (h19 : S' 19 = S 19) : RLn n c w v Ls S' := by
  unfold RLn; rw [h0, h18, h19]; exact h
theorem looks6 {S : Bun} {J : Lon} {Ls : List Nod} {r : Nat → Nat} (hP : PkOk n c w v jm) (hn : 1 ≤ n) (hM : MC n c w v jm S) (hR : RLn n c w v Ls S) (hr : ∀ i, i < n → r i < n) (hd : ∀ i j, i < j → j < n → r i ≠ r j) (h16 : ∀ i, i < n → S 16 i = nI (r i)) {post : Bun → Prop} (h : ∀ S' : Bun, FrL S S' → S' 16 = S 16 → RLn n c w v (Ls ++ [(n, r, dyN c w r (n - 1))]) S' → post S') : wX6_looks S J post := by
  obtain ⟨n6, hp⟩ := id hP
  obtain ⟨r0, r1, r2, r3, r4⟩ := hR
  have dl := dy_le hP (r := r) (k := n - 1) (by omega) (fun i hi => hr i (by omega))
  have yl := yl_le hP (r := r) (k := n) (fun i hi => hr i hi)
  have hl := hr (n - 1) (by omega)
  have ml := mxY_le (b := 6000) (fun m hm => (r0 m hm).2)
  unfold wX6_looks
  rw [c0', hM.1]
  refine ⟨vin0, ?_⟩
  rintro _ rfl
  refine wl_up4 (fun j x y z S5 => x = nI (hrN c w r j) ∧ y = nI (ylN c w v r j) ∧ z = nI j ∧ (∀ q, q ≠ 17 → S5 q = S q) ∧ ∀ i, i < j → S5 17 (r i) = nI (dyN c w r i)) n ?_ (i := 0) (by omega) ⟨rfl, rfl, rfl, fun _ _ => rfl, fun i hi => absurd hi (by omega)⟩
  rintro j x y z S5 KK hj ⟨rfl, rfl, rfl, k1, k2⟩ hKK
  refine ⟨fun hc => ?_, fun hc => ?_⟩
  · have := (nI_leI (by omega) (by omega)).mp hc
    obtain rfl : j = n := by omega
    rw [n_pred hn, tn_nI (n := j - 1) (by omega), k1 16 (by decide), h16 (j - 1) (by omega), tn_nI (n := r (j - 1)) (by omega), k2 (j - 1) (by omega)]
    refine ⟨vp_in_nI (by omega) (by decide), vp_in_nI (by omega) (by decide), ?_⟩
    rintro _ rfl _ rfl
    have b0 : ∀ m ∈ Ls ++ [(j, r, dyN c w r (j - 1))], m.2.2 < 10000 ∧ ylN c w v m.2.1 j ≤ 6000 := by
      intro m hm
      rcases List.mem_append.mp hm with hm | hm
      · exact r0 m hm
      · rw [List.mem_singleton.mp hm]; exact ⟨dl, by show ylN c w v r j ≤ 6000; omega⟩
    have snoc_ne : Ls ++ [(j, r, dyN c w r (j - 1))] ≠ [] := fun z => by
      have := congrArg List.length z
      rw [List.length_append] at this
      exact absurd this (by simp)
    have fin : ∀ y14 : Int32, y14 = mxO c w v j (Ls ++ [(j, r, dyN c w r (j - 1))]) → ∀ S18 : Bun, S18 = up (up S5 0 19 ((S5 0 19) + (1 : Int32))) 0 22 y14 → wjoin (σ := Unit) (fun _ => ∀ S22 : Bun, S22 = up S18 0 20 (nI (dyN c w r (j - 1))) → ∀ S23 : Bun, S23 = up S22 0 21 (nI (ylN c w v r j)) → wloop (σ := Int32 × Bun) (fun K26 z => match z with | (x24, S25) => ((nI j ≤ x24 → post S25) ∧ (¬ (nI j ≤ x24) → vp_in x24 6 ∧ vp_in x24 6 ∧ ∀ S32 : Bun, S32 = up S25 18 x24.toNatClampNeg (S25 16 x24.toNatClampNeg) → vp_in x24 6 ∧ vp_in x24 6 ∧ ∀ S33 : Bun, S33 = up S32 19 x24.toNatClampNeg (S32 17 x24.toNatClampNeg) → ∀ x34 : Int32, x34 = x24 + (1 : Int32) → K26 (x34, S33)))) ((0 : Int32), S23)) (fun J19 => (((S18 0 20) < 0 → J19 ()) ∧ (¬ ((S18 0 20) < 0) → (((S18 0 20) ≤ nI (dyN c w r (j - 1)) → post S18) ∧ (¬ ((S18 0 20) ≤ nI (dyN c w r (j - 1))) → J19 ()))))) := by
      rintro _ rfl _ rfl
      have o0 : ∀ k, k ≠ 19 → k ≠ 22 → up (up S5 0 19 ((S5 0 19) + (1 : Int32))) 0 22 (mxO c w v j (Ls ++ [(j, r, dyN c w r (j - 1))])) 0 k = S 0 k := fun k a b => by rw [up_ki b, up_ki a, k1 0 (by decide)]
      have o19 : up (up S5 0 19 ((S5 0 19) + (1 : Int32))) 0 22 (mxO c w v j (Ls ++ [(j, r, dyN c w r (j - 1))])) 0 19 = nI (Ls ++ [(j, r, dyN c w r (j - 1))]).length := by
        rw [up_ki (by decide), up_ss, k1 0 (by decide), r1, List.length_append]; exact nI_1 _
      have o22 : up (up S5 0 19 ((S5 0 19) + (1 : Int32))) 0 22 (mxO c w v j (Ls ++ [(j, r, dyN c w r (j - 1))])) 0 22 = mxO c w v j (Ls ++ [(j, r, dyN c w r (j - 1))]) := up_ss
      have oq : ∀ q, q ≠ 0 → up (up S5 0 19 ((S5 0 19) + (1 : Int32))) 0 22 (mxO c w v j (Ls ++ [(j, r, dyN c w r (j - 1))])) q = S5 q := fun q a => by rw [up_k a, up_k a]
      generalize up (up S5 0 19 ((S5 0 19) + (1 : Int32))) 0 22 (mxO c w v j (Ls ++ [(j, r, dyN c w r (j - 1))])) = S18 at o0 o19 o22 oq
      have UPD : bup (bst Ls) (j, r, dyN c w r (j - 1)) = some (j, r, dyN c w r (j - 1)) → ∀ S22 : Bun, S22 = up S18 0 20 (nI (dyN c w r (j - 1))) → ∀ S23 : Bun, S23 = up S22 0 21 (nI (ylN c w v r j)) → wloop (σ := Int32 × Bun) (fun K26 z => match z with | (x24, S25) => ((nI j ≤ x24 → post S25) ∧ (¬ (nI j ≤ x24) → vp_in x24 6 ∧ vp_in x24 6 ∧ ∀ S32 : Bun, S32 = up S25 18 x24.toNatClampNeg (S25 16 x24.toNatClampNeg) → vp_in x24 6 ∧ vp_in x24 6 ∧ ∀ S33 : Bun, S33 = up S32 19 x24.toNatClampNeg (S32 17 x24.toNatClampNeg) → ∀ x34 : Int32, x34 = x24 + (1 : Int32) → K26 (x34, S33)))) ((0 : Int32), S23) := by
        rintro hb _ rfl _ rfl
        refine wl_up2 (fun a y S4 => y = nI a ∧ S4 0 = up (up S18 0 20 (nI (dyN c w r (j - 1)))) 0 21 (nI (ylN c w v r j)) 0 ∧ (∀ q, q ≠ 0 → q ≠ 18 → q ≠ 19 → S4 q = S5 q) ∧ (∀ i, i < a → S4 18 i = nI (r i)) ∧ ∀ f, f < a → S4 19 f = S5 17 f) j ?_ (i := 0) (by omega) ⟨rfl, rfl, fun q a b d => by rw [up_k a, up_k a]; exact oq q a, fun i hi => absurd hi (by omega), fun i hi => absurd hi (by omega)⟩
        rintro a y S4 KK2 ha ⟨rfl, l1, l2, l3, l4⟩ hKK2
        refine ⟨fun hc2 => ?_, fun hc2 => ?_⟩
        · have := (nI_leI (by omega) (by omega)).mp hc2
          obtain rfl : a = j := by omega
          refine h S4 ⟨fun q q0 q16 q17 q18 q19 => by rw [l2 q q0 q18 q19, k1 q q17], fun k a b d e => by rw [l1, up_ki d, up_ki b]; exact o0 k a e⟩ (by rw [l2 16 (by decide) (by decide) (by decide), k1 16 (by decide)]) ?_
          unfold RLn
          rw [bst_snoc, hb, l1]
          refine ⟨b0, ?_, ?_, fun m hm => ?_, ?_⟩
          · rw [up_ki (by decide), up_ki (by decide)]; exact o19
          · rw [up_ki (by decide), up_ss]; rfl
          · obtain rfl := Option.some.inj hm
            refine ⟨by rw [up_ss], l3, fun k hk => ?_⟩
            have := hr k hk
            show S4 19 (r k) = _
            rw [l4 (r k) this]; exact k2 k hk
          · rw [up_ki (by decide), up_ki (by decide)]; exact o22
        · have hlt : a < j := by
            rcases Nat.lt_or_ge a j with h' | h'
            · exact h'
            · exact absurd (nI_le h' (by omega)) hc2
          have va : vp_in (nI a) 6 := vp_in_nI (by omega) (by decide)
          rw [tn_nI (n := a) (by omega)]
          refine ⟨va, va, ?_⟩
          rintro _ rfl
          refine ⟨va, va, ?_⟩
          rintro _ rfl _ rfl
          refine hKK2 _ _ hlt ⟨nI_1 a, by rw [up_k (by decide), up_k (by decide)]; exact l1, fun q a b d => by rw [up_k d, up_k b]; exact l2 q a b d, fun i hi => ?_, fun i hi => ?_⟩
          · rw [up_k (by decide), up_eq]
            by_cases e : i = a
            · rw [if_pos ⟨rfl, e⟩, l2 16 (by decide) (by decide) (by decide), k1 16 (by decide), e]; exact h16 a hlt
            · rw [if_neg (fun z => e z.2)]; exact l3 i (by omega)
          · rw [up_eq, up_k (by decide), up_k (by decide)]
            by_cases e : i = a
            · rw [if_pos ⟨rfl, e⟩, l2 17 (by decide) (by decide) (by decide), e]
            · rw [if_neg (fun z => e z.2)]; exact l4 i (by omega)
      refine wj ?_
      rw [o0 20 (by decide) (by decide), r2]
      cases hbs : bst Ls with
      | none =>
        rw [hbs] at UPD
        exact br_t (by show turO none < 0; decide) (UPD rfl)
      | some m =>
        have hlt := (r0 m (bst_mem hbs)).1
        rw [hbs] at UPD
        refine br_f (show ¬ nI m.2.2 < 0 from nI_pos (by omega)) ?_
        rw [show turO (some m) ≤ nI (dyN c w r (j - 1)) ↔ m.2.2 ≤ dyN c w r (j - 1) from nI_leI (by omega) (by omega)]
        refine ⟨fun y => ?_, fun y => UPD (if_pos (show dyN c w r (j - 1) < m.2.2 by omega))⟩
        refine h S18 ⟨fun q q0 q16 q17 q18 q19 => by rw [oq q q0, k1 q q17], fun k a b d e => o0 k a e⟩ (by rw [oq 16 (by decide), k1 16 (by decide)]) ?_
        have eb : bup (some m) (j, r, dyN c w r (j - 1)) = some m := if_neg (by show ¬ dyN c w r (j - 1) < m.2.2; omega)
        unfold RLn
        rw [bst_snoc, hbs, eb]
        rw [hbs] at r2 r3
        refine ⟨b0, o19, by rw [o0 20 (by decide) (by decide)]; exact r2, fun m2 hm2 => ?_, o22⟩
        rw [o0 21 (by decide) (by decide), oq 18 (by decide), oq 19 (by decide), k1 18 (by decide), k1 19 (by decide)]
        exact r3 m2 hm2
    have s22 : up S5 0 19 ((S5 0 19) + (1 : Int32)) 0 22 = mxO c w v j Ls := by rw [up_ki (by decide), k1 0 (by decide)]; exact r4
    refine wj_mx (fun z => fin _ ?_) (fun z => fin _ ?_)
    · rw [s22] at z ⊢
      rw [mxO_ne snoc_ne, mxY_snoc]
      cases Ls with
      | nil =>
        exfalso
        have t : (nI (ylN c w v r j)).toInt = _ := nI_toInt (by omega)
        have z' : nI (ylN c w v r j) ≤ -1 := z
        have e1 : (-1 : Int32).toInt = -1 := rfl
        rw [fa_le, t, e1] at z'
        omega
      | cons a l =>
        have z' : nI (ylN c w v r j) ≤ nI (mxY c w v j (a :: l)) := z
        have := (nI_leI (by omega) (by omega)).mp z'
        rw [Nat.max_eq_left this]; rfl
    · rw [s22] at z
      rw [mxO_ne snoc_ne, mxY_snoc]
      cases Ls with
      | nil => exact congrArg nI (Nat.max_eq_right (Nat.zero_le _)).symm
      | cons a l =>
        have z' : ¬ nI (ylN c w v r j) ≤ nI (mxY c w v j (a :: l)) := z
        have : ¬ ylN c w v r j ≤ mxY c w v j (a :: l) := fun q => z' (nI_le q (by omega))
        show _ = nI (max (mxY c w v j (a :: l)) (ylN c w v r j))
        rw [Nat.max_eq_right (by omega)]
  · have hlt : j < n := by
      rcases Nat.lt_or_ge j n with h' | h'
      · exact h'
      · exact absurd (nI_le h' (by omega)) hc
    have hrj := hr j hlt
    obtain ⟨g1, g2, g3, g4⟩ := hM.2 (r j) hrj
    obtain ⟨p1, p2, p3, p4, p5⟩ := hp (r j) hrj
    have hh := hr_le hP (r := r) (k := j) (fun i hi => hr i (by omega))
    have vf : vp_in (nI (r j)) 6 := vp_in_nI (by omega) (by decide)
    have hf6 : r j < 6 := by omega
    rw [tn_nI (n := j) (by omega), k1 16 (by decide), h16 j hlt]
    refine ⟨vp_in_nI (by omega) (by decide), ?_⟩
    rintro _ rfl
    refine its6 (w := 4) hf6 (by decide) ?_
    rw [k1 1 (by decide), g2, tn_nI (n := r j) (by omega), k1 15 (by decide), g1]
    have eh : hrN c w r (j + 1) = max (hrN c w r j) (8 * w (r j)) + c (r j) := rfl
    have mx : max (hrN c w r j) (8 * w (r j)) ≤ 792 + 1000 * j := Nat.max_le.mpr ⟨hh, by omega⟩
    have dlj := dy_le hP (r := r) (k := j) (by omega) (fun i hi => hr i (by omega))
    have e8 : (8 : Int32) * nI (w (r j)) = nI (8 * w (r j)) := by rw [fa_lit 8, pk_mul]
    have go : ∀ y43 : Int32, y43 = nI (max (hrN c w r j) (8 * w (r j))) → vp_in (nI (r j)) 6 ∧ ∀ x47 : Int32, x47 = y43 + nI (c (r j)) → vp_in (nI (r j)) 6 ∧ ∀ S48 : Bun, S48 = up S5 17 (r j) ((x47 - (1 : Int32)) / (8 : Int32)) → wX6_its S48 J (nI (r j)) (5 : Int32) (fun r49 => vp_in (nI (r j)) 6 ∧ ∀ x51 : Int32, x51 = r49 - ((3 : Int32) * (S48 17 (r j))) → wjoin (σ := Int32) (fun y52 => ∀ x56 : Int32, x56 = nI (ylN c w v r j) + y52 → ∀ x57 : Int32, x57 = nI j + (1 : Int32) → KK (x47, x56, x57, S48)) (fun J53 => ((0 ≤ x51 → J53 x51) ∧ (¬ (0 ≤ x51) → J53 (0 : Int32))))) := by
      rintro _ rfl
      refine ⟨vf, ?_⟩
      rintro _ rfl
      rw [nI_add, ← eh]
      refine ⟨vf, ?_⟩
      have e12 : (nI (hrN c w r (j + 1)) - (1 : Int32)) / (8 : Int32) = nI (dyN c w r j) := by
        rw [n_pred (by rw [eh]; omega), fa_lit 8, pk_div (by rw [eh]; omega) (by decide) (by decide)]
        rfl
      rw [e12]
      rintro _ rfl
      refine its6 (w := 5) hf6 (by decide) ⟨vf, ?_⟩
      rw [up_k (by decide), k1 1 (by decide), g3, up_ss, fa_lit 3, pk_mul]
      rintro _ rfl
      have t := pk_sub_toInt (a := v (r j)) (b := 3 * dyN c w r j) (by omega) (by omega)
      have t0 : (0 : Int32).toInt = 0 := rfl
      have nx : ∀ y52 : Int32, y52 = nI (v (r j) - 3 * dyN c w r j) → ∀ x56 : Int32, x56 = nI (ylN c w v r j) + y52 → ∀ x57 : Int32, x57 = nI j + (1 : Int32) → KK (nI (hrN c w r (j + 1)), x56, x57, up S5 17 (r j) (nI (dyN c w r j))) := by
        rintro _ rfl _ rfl _ rfl
        refine hKK _ _ _ _ hlt ⟨rfl, by rw [nI_add]; rfl, nI_1 j, fun q hq => by rw [up_k hq]; exact k1 q hq, fun i hi => ?_⟩
        by_cases e : i = j
        · rw [e, up_ss]
        · rw [up_ki (hd i j (by omega) hlt)]; exact k2 i (by omega)
      refine wj ⟨fun z => nx _ ?_, fun z => nx _ ?_⟩
      · rw [fa_le, t, t0] at z
        exact n_sub (by omega) (by omega)
      · rw [fa_le, t, t0] at z
        rw [show v (r j) - 3 * dyN c w r j = 0 by omega]; rfl
    rw [e8]
    refine wj ⟨fun z => go _ ?_, fun z => its6 (w := 4) hf6 (by decide) ?_⟩
    · have := (nI_leI (by omega) (by omega)).mp z
      rw [Nat.max_eq_left this]
    · rw [k1 1 (by decide), g2]
      show vp_in (nI (r j)) 6 ∧ _
      refine go _ ?_
      rw [e8]
      have : ¬ 8 * w (r j) ≤ hrN c w r j := fun q => z (nI_le q (by omega))
      rw [Nat.max_eq_right (by omega)]
end
