/-! the class's search of lines -/
section
variable {n : Nat} {c w v jm : Nat → Nat}
theorem bt_and2 {L O f : Nat} (hf : f < 32) : bt (nI L &&& nI O) f = (L.testBit f && O.testBit f) := by rw [b_and, bt_nI hf, bt_nI hf]
theorem goOn5 (hP : PkOk n c w v jm) (hn : 1 ≤ n) : ∀ (d k : Nat) (r : Nat → Nat) (L O : Nat) (S : Bun) (Ls : List Nod) (post : Bun → Prop), d + k = 8 → k ≤ n → L < 65536 → (∀ i, i < k → r i < n) → (∀ i, i < k → L.testBit (r i) = false) → CR n c w v jm S → (∀ i, i < k → S 12 i = nI (r i)) → (∀ i, i < k → S 13 (r i) = nI (dyN c w r i)) → RC n c w v Ls S → (Ls ++ lns n c w jm d k r L O).length < 2 ^ 31 → (∀ S' : Bun, CR n c w v jm S' → (∀ i, i < k → S' 12 i = nI (r i)) → (∀ i, i < k → S' 13 (r i) = nI (dyN c w r i)) → RC n c w v (Ls ++ lns n c w jm d k r L O) S' → post S') → wX2_goOn d S (nI k) (nI L) (nI O) (nI (hrN c w r k)) (nI (ylN c w v r k)) post := by
  obtain ⟨n6, hp⟩ := id hP
  intro d
  induction d with
  | zero => intro k r L O S Ls post hd hk; omega
  | succ d ih =>
    intro k r L O S Ls post hd hk hL hr hrL hC s12 s13 hR hlen hpost
    unfold wX2_goOn
    rw [hC.1]
    refine ⟨fun z => ?_, fun z => ?_⟩
    · have hkn : k < n := (nI_ltI (by omega) (by omega)).mp z
      have ne : k ≠ n := by omega
      rw [lns_k ne] at hpost hlen
      have cnt : ∀ i, i ≤ n → (Ls ++ catTo (lkd n c w jm d k r L O) i).length < 2 ^ 31 := by
        intro i hi
        rw [List.length_append] at hlen
        have := cat_len (lkd n c w jm d k r L O) hi
        rw [List.length_append]; omega
      refine wl_up2 (fun f x S2 => x = nI f ∧ CR n c w v jm S2 ∧ (∀ i, i < k → S2 12 i = nI (r i)) ∧ (∀ i, i < k → S2 13 (r i) = nI (dyN c w r i)) ∧ RC n c w v (Ls ++ catTo (lkd n c w jm d k r L O) f) S2) n ?_ (i := 0) (by omega) ⟨rfl, hC, s12, s13, by show RC n c w v (Ls ++ []) S; rw [List.append_nil]; exact hR⟩
      rintro f x S2 KK hf ⟨rfl, k1, k2, k3, k4⟩ hKK
      refine ⟨fun hc => ?_, fun hc => ?_⟩ <;> rw [k1.1] at hc
      · have := (nI_leI (by omega) (by omega)).mp hc
        obtain rfl : f = n := by omega
        exact hpost S2 k1 k2 k3 k4
      · have hlt : f < n := by
          rcases Nat.lt_or_ge f n with h' | h'
          · exact h'
          · exact absurd (nI_le h' (by omega)) hc
        obtain ⟨g2, g3, g4, g5⟩ := k1.2 f hlt
        obtain ⟨p1, p2, p3, p4, p5⟩ := hp f hlt
        have vf : vp_in (nI f) 6 := vp_in_nI (by omega) (by decide)
        have hh := hr_le hP hr
        have yy := yl_le hP hr
        refine holds_b (by omega) (fun hb => br_f (by decide) ⟨vf, vf, ?_⟩) (fun hb => br_t rfl ?_)
        · rw [bt_and2 (by omega)] at hb
          have hbL : L.testBit f = true := (Bool.and_eq_true _ _ ▸ hb).1
          have hf16 : f < 16 := by omega
          have ek : lkd n c w jm d k r L O f = lns n c w jm d (k + 1) (ext r k f) (delN L f) (jm f) := by unfold lkd; rw [hb]; rfl
          have eh : hrN c w (ext r k f) (k + 1) = max (hrN c w r k) (8 * w f) + c f := by
            show max (hrN c w (ext r k f) k) (8 * w (ext r k f k)) + c (ext r k f k) = _
            rw [ext_n, hr_cong (r' := r) (fun i hi => ext_o (by omega))]
          have ed : dyN c w (ext r k f) k = (max (hrN c w r k) (8 * w f) + c f - 1) / 8 := by unfold dyN; rw [eh]
          have ey : ylN c w v (ext r k f) (k + 1) = ylN c w v r k + (v f - 3 * dyN c w (ext r k f) k) := by
            show ylN c w v (ext r k f) k + (v (ext r k f k) - 3 * dyN c w (ext r k f) k) = _
            rw [ext_n, yl_cong (r' := r) (fun i hi => ext_o (by omega))]
          have mx : max (hrN c w r k) (8 * w f) ≤ 792 + 1000 * k := Nat.max_le.mpr ⟨hh, by omega⟩
          rw [tn_nI (n := f) (by omega), g2, g3]
          have e11 : (if nI (hrN c w r k) < nI (w f) * (8 : Int32) then nI (w f) * (8 : Int32) else nI (hrN c w r k)) + nI (c f) = nI (hrN c w (ext r k f) (k + 1)) := by
            rw [eh, ← nI_add, fa_lit 8, pk_mul, Nat.mul_comm (w f) 8]
            by_cases q : hrN c w r k < 8 * w f
            · rw [if_pos (nI_lt q (by omega)), Nat.max_eq_right (by omega)]
            · rw [if_neg (nI_nlt (by omega) (by omega)), Nat.max_eq_left (by omega)]
          rw [e11]
          rintro _ rfl
          have e12 : (nI (hrN c w (ext r k f) (k + 1)) - (1 : Int32)) / (8 : Int32) = nI (dyN c w (ext r k f) k) := by
            rw [n_pred (by rw [eh]; omega), fa_lit 8, pk_div (by rw [eh]; omega) (by decide) (by decide)]
            rfl
          rw [e12]
          rintro _ rfl
          rw [tn_nI (n := k) (by omega)]
          refine ⟨vp_in_nI (by omega) (by decide), ?_⟩
          rintro _ rfl
          refine ⟨vf, ?_⟩
          rintro _ rfl
          refine ⟨vf, ?_⟩
          have dl : dyN c w (ext r k f) k < 10000 := by rw [ed]; omega
          rw [up_k (by decide), up_k (by decide), g4]
          have e15 : (if (0 : Int32) < nI (v f) - (3 : Int32) * nI (dyN c w (ext r k f) k) then nI (v f) - (3 : Int32) * nI (dyN c w (ext r k f) k) else (0 : Int32)) = nI (v f - 3 * dyN c w (ext r k f) k) := by
            rw [fa_lit 3, pk_mul]
            have t := pk_sub_toInt (a := v f) (b := 3 * dyN c w (ext r k f) k) (by omega) (by omega)
            have t0 : (0 : Int32).toInt = 0 := rfl
            by_cases q : 3 * dyN c w (ext r k f) k < v f
            · rw [if_pos (by rw [fa_lt, t, t0]; omega), n_sub (by omega) (by omega)]
            · rw [if_neg (by rw [fa_lt, t, t0]; omega), show v f - 3 * dyN c w (ext r k f) k = 0 by omega]; rfl
          rw [e15]
          rintro _ rfl
          refine ⟨vf, ?_⟩
          rw [up_k (by decide), up_k (by decide), g5, show nI k + (1 : Int32) = nI (k + 1) from nI_1 k, del_I hL hf16, nI_add, ← ey]
          refine ih (k + 1) (ext r k f) (delN L f) (jm f) _ (Ls ++ catTo (lkd n c w jm d k r L O) f) _ (by omega) (by omega) (del_lt hL) (fun i hi => ?_) (fun i hi => ?_) ?_ (fun i hi => ?_) (fun i hi => ?_) ?_ ?_ ?_
          · by_cases e : i = k
            · rw [e, ext_n]; exact hlt
            · rw [ext_o e]; exact hr i (by omega)
          · rw [del_bit hL]
            by_cases e : i = k
            · rw [e, ext_n, if_pos rfl]
            · rw [ext_o e]
              split
              · rfl
              · exact hrL i (by omega)
          · refine ⟨by rw [up_k (by decide), up_k (by decide)]; exact k1.1, fun q hq => ?_⟩
            rw [up_k (by decide), up_k (by decide), up_k (by decide), up_k (by decide), up_k (by decide), up_k (by decide), up_k (by decide), up_k (by decide)]
            exact k1.2 q hq
          · rw [up_k (by decide)]
            by_cases e : i = k
            · rw [e, ext_n, up_ss]
            · rw [ext_o e, up_ki e]; exact k2 i (by omega)
          · by_cases e : i = k
            · rw [e, ext_n, up_ss]
            · have nf : r i ≠ f := fun z => by
                have := hrL i (by omega)
                rw [z, hbL] at this
                exact absurd this (by decide)
              rw [ext_o e, up_ki nf, up_k (by decide), k3 i (by omega), dy_cong (r' := ext r k f) (fun j hj => (ext_o (by omega)).symm)]
          · obtain ⟨q0, q1, q2, q3⟩ := k4
            refine ⟨q0, by rw [up_k (by decide), up_k (by decide)]; exact q1, fun m hm => ?_, fun hne => by rw [up_k (by decide), up_k (by decide)]; exact q3 hne⟩
            rw [up_k (by decide), up_k (by decide), up_k (by decide), up_k (by decide), up_k (by decide), up_k (by decide)]
            exact q2 m hm
          · rw [← ek, List.append_assoc]
            exact cnt (f + 1) (by omega)
          · rintro S' u1 u2 u3 u4 _ rfl
            refine hKK _ _ hlt ⟨nI_1 f, u1, fun i hi => ?_, fun i hi => ?_, ?_⟩
            · rw [u2 i (by omega), ext_o (by omega)]
            · have := u3 i (by omega)
              rw [ext_o (by omega)] at this
              rw [this, dy_cong (r' := r) (fun j hj => ext_o (by omega))]
            · rw [← ek, List.append_assoc] at u4
              exact u4
        · rw [bt_and2 (by omega)] at hb
          rintro _ rfl
          refine hKK _ _ hlt ⟨nI_1 f, k1, k2, k3, ?_⟩
          show RC n c w v (Ls ++ (catTo (lkd n c w jm d k r L O) f ++ lkd n c w jm d k r L O f)) S2
          have : lkd n c w jm d k r L O f = [] := by unfold lkd; rw [hb]; rfl
          rw [this, List.append_nil]; exact k4
    · have : k = n := by
        rcases Nat.lt_or_ge k n with h | h
        · exact absurd (nI_lt h (by omega)) z
        · omega
      subst this
      rw [lns_n] at hpost hlen
      rw [List.length_append] at hlen
      refine keepR5 hP hn hR (by omega) hr s12 s13 (fun S' u1 u2 u3 => hpost S' ⟨?_, fun q hq => ?_⟩ (fun i hi => ?_) (fun i hi => ?_) u3)
      · rw [u1 0 (by decide) (by decide) (by decide) (by decide)]; exact hC.1
      · rw [u2 2 (by decide) (by decide) (by decide), u2 3 (by decide) (by decide) (by decide), u2 4 (by decide) (by decide) (by decide), u2 5 (by decide) (by decide) (by decide)]
        exact hC.2 q hq
      · rw [u2 12 (by decide) (by decide) (by decide)]; exact s12 i hi
      · rw [u2 13 (by decide) (by decide) (by decide)]; exact s13 i hi
/-- all costs are there -/
def allS (g : Nat → Option Nat) : Nat → Bool
  | 0 => true
  | k + 1 => allS g k && (g k).isSome
def cO (g : Nat → Option Nat) (f : Nat) : Nat := (g f).getD 0
def LnN (n : Nat) (g : Nat → Option Nat) (w jm : Nat → Nat) : List Nod := if n = 0 then [] else if allS g n then lns n (cO g) w jm 8 0 (fun _ => 0) (2 ^ n - 1) (2 ^ n - 1) else []
theorem allS_t {g : Nat → Option Nat} : ∀ {k : Nat}, allS g k = true → ∀ f, f < k → g f = some (cO g f)
  | 0, _, f, hf => absurd hf (by omega)
  | k + 1, h, f, hf => by
    have h' : (allS g k && (g k).isSome) = true := h
    rw [Bool.and_eq_true] at h'
    by_cases e : f = k
    · subst e
      cases q : g f with
      | none => rw [q] at h'; exact absurd h'.2 (by decide)
      | some x => unfold cO; rw [q]; rfl
    · exact allS_t h'.1 f (by omega)
theorem allS_f {g : Nat → Option Nat} : ∀ {k f : Nat}, f < k → g f = none → allS g k = false
  | 0, f, hf, _ => absurd hf (by omega)
  | k + 1, f, hf, h => by
    show (allS g k && (g k).isSome) = false
    by_cases e : f = k
    · subst e; rw [h]; exact Bool.and_false _
    · rw [allS_f (by omega) h]; rfl
def CG (n : Nat) (g : Nat → Option Nat) (w v jm : Nat → Nat) (S : Bun) : Prop := S 0 0 = nI n ∧ ∀ f, f < n → S 2 f = cI (g f) ∧ S 3 f = nI (w f) ∧ S 4 f = nI (v f) ∧ S 5 f = nI (jm f)
def PgOk (n : Nat) (g : Nat → Option Nat) (w v jm : Nat → Nat) : Prop := n ≤ 6 ∧ ∀ f, f < n → (∀ x, g f = some x → 1 ≤ x ∧ x < 1000) ∧ w f ≤ 99 ∧ v f ≤ 999 ∧ jm f < 64
theorem PgOk.pk {g : Nat → Option Nat} (h : PgOk n g w v jm) (ha : allS g n = true) : PkOk n (cO g) w v jm := ⟨h.1, fun f hf => by
  have e := allS_t ha f hf
  have := (h.2 f hf).1 _ e
  exact ⟨this.1, this.2, (h.2 f hf).2.1, (h.2 f hf).2.2.1, (h.2 f hf).2.2.2⟩⟩
theorem LnN_len {g : Nat → Option Nat} (hn : n ≤ 6) : (LnN n g w jm).length < 2 ^ 31 := by
  unfold LnN
  split
  · decide
  · split
    · exact Nat.lt_of_le_of_lt (lns_len hn 8 _ _ _ _) (by decide)
    · decide
theorem RC_nil {S : Bun} (h : S 0 5 = 0) : RC n c w v [] S := ⟨(fun m hm => by cases hm), h, (fun m hm => by cases hm), fun z => absurd rfl z⟩
theorem search5 {S : Bun} {g : Nat → Option Nat} (hP : PgOk n g w v jm) (hC : CG n g w v jm S) {post : Bun → Prop} (h : ∀ S' : Bun, CG n g w v jm S' → RC n (cO g) w v (LnN n g w jm) S' → post S') : wX2_search S post := by
  obtain ⟨n6, hp⟩ := id hP
  unfold wX2_search
  rintro _ rfl
  have hC1 : CG n g w v jm (up S 0 5 0) := by
    refine ⟨by rw [up_ki (by decide)]; exact hC.1, fun f hf => ?_⟩
    rw [up_k (by decide), up_k (by decide), up_k (by decide), up_k (by decide)]
    exact hC.2 f hf
  have h50 : up S 0 5 0 0 5 = 0 := up_ss
  generalize up S 0 5 0 = S1 at hC1 h50
  refine wl_up (fun f x => x = nI f ∧ allS g f = true) n ?_ (i := 0) (by omega) ⟨rfl, rfl⟩
  rintro f x KK hf ⟨rfl, k1⟩ hKK
  refine ⟨fun hc => ?_, fun hc => ?_⟩ <;> rw [hC1.1] at hc
  · have := (nI_leI (by omega) (by omega)).mp hc
    obtain rfl : f = n := by omega
    rintro _ rfl
    rw [hC1.1]
    have e9 : ((1 : Int32) <<< (nI f &&& 31)) - (1 : Int32) = nI (2 ^ f - 1) := (show ∀ f, f ≤ 6 → ((1 : Int32) <<< (nI f &&& 31)) - (1 : Int32) = nI (2 ^ f - 1) by decide +kernel) f n6
    rw [e9]
    by_cases n0 : f = 0
    · subst n0
      have : LnN 0 g w jm = [] := rfl
      rw [this] at h
      unfold wX2_goOn wX2_keep
      refine br_f (by rw [hC1.1]; decide) (br_t rfl (h S1 hC1 (RC_nil h50)))
    · have hP2 := hP.pk k1
      have eL : LnN f g w jm = lns f (cO g) w jm 8 0 (fun _ => 0) (2 ^ f - 1) (2 ^ f - 1) := by
        unfold LnN; rw [if_neg n0, if_pos k1]
      have p16 : 2 ^ f - 1 < 65536 := by
        have : 2 ^ f ≤ 2 ^ 6 := Nat.pow_le_pow_right (by decide) n6
        omega
      refine goOn5 (c := cO g) (w := w) (v := v) (jm := jm) hP2 (by omega) 8 0 (fun _ => 0) (2 ^ f - 1) (2 ^ f - 1) S1 [] _ rfl (by omega) p16 (fun i hi => absurd hi (by omega)) (fun i hi => absurd hi (by omega)) ⟨hC1.1, fun q hq => ?_⟩ (fun i hi => absurd hi (by omega)) (fun i hi => absurd hi (by omega)) (RC_nil h50) ?_ (fun S' u1 u2 u3 u4 => ?_)
      · obtain ⟨g2, g3, g4, g5⟩ := hC1.2 q hq
        rw [allS_t k1 q hq] at g2
        exact ⟨g2, g3, g4, g5⟩
      · rw [List.nil_append]
        exact Nat.lt_of_le_of_lt (lns_len n6 8 _ _ _ _) (by decide)
      · refine h S' ⟨u1.1, fun q hq => ?_⟩ (by rw [eL]; exact u4)
        obtain ⟨g2, g3, g4, g5⟩ := u1.2 q hq
        rw [allS_t k1 q hq]
        exact ⟨g2, g3, g4, g5⟩
  · have hlt : f < n := by
      rcases Nat.lt_or_ge f n with h' | h'
      · exact h'
      · exact absurd (nI_le h' (by omega)) hc
    rw [tn_nI (n := f) (by omega), (hC1.2 f hlt).1]
    refine ⟨vp_in_nI (by omega) (by decide), ?_⟩
    cases q : g f with
    | none =>
      refine br_t rfl (h S1 hC1 ?_)
      have : LnN n g w jm = [] := by
        unfold LnN
        rw [if_neg (by omega), allS_f hlt q]; rfl
      rw [this]; exact RC_nil h50
    | some y =>
      have hy := (hp f hlt).1 y q
      refine br_f (fun z => absurd ((nI_eq (b := 1000000) (by omega) (by decide)).mp z) (by omega)) ?_
      rintro _ rfl
      refine hKK _ hlt ⟨nI_1 f, ?_⟩
      show (allS g f && (g f).isSome) = true
      rw [k1, q]; rfl
end
