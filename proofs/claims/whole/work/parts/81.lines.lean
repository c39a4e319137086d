/-! LINES: rows of all fields; the class's search -/
section
def hrN (c w : Nat → Nat) (r : Nat → Nat) : Nat → Nat
  | 0 => 0
  | k + 1 => max (hrN c w r k) (8 * w (r k)) + c (r k)
def dyN (c w : Nat → Nat) (r : Nat → Nat) (k : Nat) : Nat := (hrN c w r (k + 1) - 1) / 8
def ylN (c w v : Nat → Nat) (r : Nat → Nat) : Nat → Nat
  | 0 => 0
  | k + 1 => ylN c w v r k + (v (r k) - 3 * dyN c w r k)
def PkOk (n : Nat) (c w v jm : Nat → Nat) : Prop := n ≤ 6 ∧ ∀ f, f < n → 1 ≤ c f ∧ c f < 1000 ∧ w f ≤ 99 ∧ v f ≤ 999 ∧ jm f < 64
variable {n : Nat} {c w v jm : Nat → Nat}
theorem hr_cong {r r' : Nat → Nat} : ∀ {k : Nat}, (∀ i, i < k → r i = r' i) → hrN c w r k = hrN c w r' k
  | 0, _ => rfl
  | k + 1, h => by
    show max (hrN c w r k) (8 * w (r k)) + c (r k) = max (hrN c w r' k) (8 * w (r' k)) + c (r' k)
    rw [hr_cong (fun i hi => h i (by omega)), h k (by omega)]
theorem dy_cong {r r' : Nat → Nat} {k : Nat} (h : ∀ i, i ≤ k → r i = r' i) : dyN c w r k = dyN c w r' k := by
  unfold dyN; rw [hr_cong (fun i hi => h i (by omega))]
theorem yl_cong {r r' : Nat → Nat} : ∀ {k : Nat}, (∀ i, i < k → r i = r' i) → ylN c w v r k = ylN c w v r' k
  | 0, _ => rfl
  | k + 1, h => by
    show ylN c w v r k + (v (r k) - 3 * dyN c w r k) = ylN c w v r' k + (v (r' k) - 3 * dyN c w r' k)
    rw [yl_cong (fun i hi => h i (by omega)), h k (by omega), dy_cong (fun i hi => h i (by omega))]
theorem hr_le (hP : PkOk n c w v jm) {r : Nat → Nat} : ∀ {k : Nat}, (∀ i, i < k → r i < n) → hrN c w r k ≤ 792 + 1000 * k
  | 0, _ => Nat.zero_le _
  | k + 1, h => by
    have ih := hr_le hP (r := r) (k := k) (fun i hi => h i (by omega))
    have p := hP.2 (r k) (h k (by omega))
    show max (hrN c w r k) (8 * w (r k)) + c (r k) ≤ _
    have : max (hrN c w r k) (8 * w (r k)) ≤ 792 + 1000 * k := Nat.max_le.mpr ⟨ih, by omega⟩
    omega
theorem dy_le (hP : PkOk n c w v jm) {r : Nat → Nat} {k : Nat} (hk : k < 6) (h : ∀ i, i ≤ k → r i < n) : dyN c w r k < 10000 := by
  have := hr_le hP (r := r) (k := k + 1) (fun i hi => h i (by omega))
  unfold dyN
  omega
theorem yl_le (hP : PkOk n c w v jm) {r : Nat → Nat} : ∀ {k : Nat}, (∀ i, i < k → r i < n) → ylN c w v r k ≤ 999 * k
  | 0, _ => Nat.zero_le _
  | k + 1, h => by
    have ih := yl_le hP (r := r) (k := k) (fun i hi => h i (by omega))
    have p := hP.2 (r k) (h k (by omega))
    show ylN c w v r k + (v (r k) - 3 * dyN c w r k) ≤ _
    omega
/-- all lines, in order -/
def lns (n : Nat) (c w jm : Nat → Nat) : Nat → Nat → (Nat → Nat) → Nat → Nat → List Nod
  | 0 => fun _ _ _ _ => []
  | d + 1 => fun k r L O => if k = n then [(n, r, dyN c w r (n - 1))] else catTo (fun f => if L.testBit f && O.testBit f then lns n c w jm d (k + 1) (ext r k f) (delN L f) (jm f) else []) n
def lkd (n : Nat) (c w jm : Nat → Nat) (d k : Nat) (r : Nat → Nat) (L O f : Nat) : List Nod := if L.testBit f && O.testBit f then lns n c w jm d (k + 1) (ext r k f) (delN L f) (jm f) else []
theorem lns_n {d : Nat} {r : Nat → Nat} {L O : Nat} : lns n c w jm (d + 1) n r L O = [(n, r, dyN c w r (n - 1))] := if_pos rfl
theorem lns_k {d k : Nat} {r : Nat → Nat} {L O : Nat} (h : k ≠ n) : lns n c w jm (d + 1) k r L O = catTo (lkd n c w jm d k r L O) n := if_neg h
theorem lns_len (hn : n ≤ 6) : ∀ (d k : Nat) (r : Nat → Nat) (L O : Nat), (lns n c w jm d k r L O).length ≤ 6 ^ d
  | 0, _, _, _, _ => Nat.zero_le _
  | d + 1, k, r, L, O => by
    by_cases h : k = n
    · subst h
      rw [lns_n]
      exact Nat.pos_of_ne_zero (Nat.ne_of_gt (Nat.pow_pos (by decide)))
    · rw [lns_k h]
      have := cat_bd (g := lkd n c w jm d k r L O) (b := 6 ^ d) (fun f => by
        unfold lkd
        split
        · exact lns_len hn d _ _ _ _
        · exact Nat.zero_le _) n
      have h2 : n * 6 ^ d ≤ 6 * 6 ^ d := Nat.mul_le_mul_right _ hn
      have h3 : 6 ^ (d + 1) = 6 * 6 ^ d := by rw [Nat.pow_succ, Nat.mul_comm]
      omega
def mxY (c w v : Nat → Nat) (n : Nat) (l : List Nod) : Nat := l.foldl (fun a m => max a (ylN c w v m.2.1 n)) 0
theorem mxY_snoc (l : List Nod) (m : Nod) : mxY c w v n (l ++ [m]) = max (mxY c w v n l) (ylN c w v m.2.1 n) := by unfold mxY; rw [List.foldl_append]; rfl
theorem mxY_fold : ∀ {l : List Nod} {a b : Nat}, (∀ m ∈ l, ylN c w v m.2.1 n ≤ b) → a ≤ b → l.foldl (fun a m => max a (ylN c w v m.2.1 n)) a ≤ b
  | [], _, _, _, h => h
  | x :: l, a, b, h, ha => by
    show l.foldl (fun a m => max a (ylN c w v m.2.1 n)) (max a (ylN c w v x.2.1 n)) ≤ b
    exact mxY_fold (l := l) (fun m hm => h m (List.mem_cons_of_mem _ hm)) (Nat.max_le.mpr ⟨ha, h x List.mem_cons_self⟩)
theorem mxY_le {l : List Nod} {b : Nat} (h : ∀ m ∈ l, ylN c w v m.2.1 n ≤ b) : mxY c w v n l ≤ b := mxY_fold h (Nat.zero_le _)
/-- the class's parish of a search, and what it has found -/
def CR (n : Nat) (c w v jm : Nat → Nat) (S : Bun) : Prop := S 0 0 = nI n ∧ ∀ f, f < n → S 2 f = nI (c f) ∧ S 3 f = nI (w f) ∧ S 4 f = nI (v f) ∧ S 5 f = nI (jm f)
def RC (n : Nat) (c w v : Nat → Nat) (Ls : List Nod) (S : Bun) : Prop := (∀ m ∈ Ls, m.2.2 < 10000 ∧ ylN c w v m.2.1 n ≤ 6000) ∧ S 0 5 = nI Ls.length ∧ (∀ m, bst Ls = some m → S 0 7 = nI m.2.2 ∧ S 0 8 = nI (ylN c w v m.2.1 n) ∧ (∀ k, k < n → S 10 k = nI (m.2.1 k)) ∧ ∀ k, k < n → S 11 (m.2.1 k) = nI (dyN c w m.2.1 k)) ∧ (Ls ≠ [] → S 0 6 = nI (mxY c w v n Ls))
theorem n_sub {a b : Nat} (h : b ≤ a) (ha : a < 2 ^ 30) : nI a - nI b = nI (a - b) := by
  rw [fa_eq, pk_sub_toInt ha (by omega), nI_toInt (by omega)]; omega
theorem keepR5 {S : Bun} {Ls : List Nod} {r : Nat → Nat} (hP : PkOk n c w v jm) (hn : 1 ≤ n) (hR : RC n c w v Ls S) (hlen : Ls.length < 2 ^ 31) (hr : ∀ i, i < n → r i < n) (h12 : ∀ i, i < n → S 12 i = nI (r i)) (h13 : ∀ i, i < n → S 13 (r i) = nI (dyN c w r i)) {post : Bun → Prop} (h : ∀ S' : Bun, (∀ k, k ≠ 5 → k ≠ 6 → k ≠ 7 → k ≠ 8 → S' 0 k = S 0 k) → (∀ q, q ≠ 0 → q ≠ 10 → q ≠ 11 → S' q = S q) → RC n c w v (Ls ++ [(n, r, dyN c w r (n - 1))]) S' → post S') : wX2_keep S (nI n) (nI (ylN c w v r n)) post := by
  obtain ⟨n6, hp⟩ := id hP
  obtain ⟨r0, r1, r2, r3⟩ := hR
  have dl := dy_le hP (r := r) (k := n - 1) (by omega) (fun i hi => hr i (by omega))
  have yl := yl_le hP (r := r) (k := n) (fun i hi => hr i hi)
  have hl := hr (n - 1) (by omega)
  have ml := mxY_le (b := 6000) (fun m hm => (r0 m hm).2)
  unfold wX2_keep
  refine br_f (nI_ne0 (by omega) (by omega)) ?_
  rw [n_pred hn, tn_nI (n := n - 1) (by omega), h12 (n - 1) (by omega), tn_nI (n := r (n - 1)) (by omega), h13 (n - 1) (by omega)]
  refine ⟨vp_in_nI (by omega) (by decide), vp_in_nI (by omega) (by decide), ?_⟩
  rintro _ rfl
  have b0 : ∀ m ∈ Ls ++ [(n, r, dyN c w r (n - 1))], m.2.2 < 10000 ∧ ylN c w v m.2.1 n ≤ 6000 := by
    intro m hm
    rcases List.mem_append.mp hm with hm | hm
    · exact r0 m hm
    · rw [List.mem_singleton.mp hm]; exact ⟨dl, by show ylN c w v r n ≤ 6000; omega⟩
  have tail : ∀ S2 : Bun, (∀ k, k ≠ 7 → k ≠ 8 → S2 0 k = S 0 k) → (∀ q, q ≠ 0 → q ≠ 10 → q ≠ 11 → S2 q = S q) → (∀ m, bup (bst Ls) (n, r, dyN c w r (n - 1)) = some m → S2 0 7 = nI m.2.2 ∧ S2 0 8 = nI (ylN c w v m.2.1 n) ∧ (∀ k, k < n → S2 10 k = nI (m.2.1 k)) ∧ ∀ k, k < n → S2 11 (m.2.1 k) = nI (dyN c w m.2.1 k)) → wjoin (σ := Int32) (fun y6 => ∀ S10 : Bun, S10 = up S2 0 6 y6 → ∀ S11 : Bun, S11 = up S10 0 5 ((S10 0 5) + (1 : Int32)) → post S11) (fun J7 => (((S2 0 5) = 0 → J7 (nI (ylN c w v r n))) ∧ (¬ ((S2 0 5) = 0) → J7 (if (S2 0 6) < nI (ylN c w v r n) then nI (ylN c w v r n) else (S2 0 6))))) := by
    intro S2 t1 t2 t3
    have fin : ∀ y6 : Int32, y6 = nI (max (mxY c w v n Ls) (ylN c w v r n)) → ∀ S10 : Bun, S10 = up S2 0 6 y6 → ∀ S11 : Bun, S11 = up S10 0 5 ((S10 0 5) + (1 : Int32)) → post S11 := by
      rintro _ rfl _ rfl _ rfl
      refine h _ (fun k a b d e => by rw [up_ki a, up_ki b]; exact t1 k d e) (fun q a b d => by rw [up_k a, up_k a]; exact t2 q a b d) ⟨b0, ?_, fun m hm => ?_, fun _ => ?_⟩
      · rw [up_ss, up_ki (by decide), t1 5 (by decide) (by decide), r1, List.length_append]; exact nI_1 _
      · rw [bst_snoc] at hm
        rw [up_ki (by decide), up_ki (by decide), up_ki (by decide), up_ki (by decide), up_k (by decide), up_k (by decide), up_k (by decide), up_k (by decide)]
        exact t3 m hm
      · rw [up_ki (by decide), up_ss, mxY_snoc]
    refine wj ⟨fun z => fin _ ?_, fun z => fin _ ?_⟩
    · rw [t1 5 (by decide) (by decide), r1] at z
      have : Ls.length = 0 := (nI_eq (b := 0) hlen (by decide)).mp z
      rw [List.length_eq_zero_iff.mp this]
      exact congrArg nI (Nat.max_eq_right (Nat.zero_le _)).symm
    · rw [t1 5 (by decide) (by decide), r1] at z
      have ne : Ls ≠ [] := fun q => z (by rw [q]; rfl)
      rw [t1 6 (by decide) (by decide), r3 ne]
      by_cases q : mxY c w v n Ls < ylN c w v r n
      · rw [if_pos (nI_lt q (by omega)), Nat.max_eq_right (by omega)]
      · rw [if_neg (nI_nlt (by omega) (by omega)), Nat.max_eq_left (by omega)]
  have new : bup (bst Ls) (n, r, dyN c w r (n - 1)) = some (n, r, dyN c w r (n - 1)) → ∀ S16 : Bun, S16 = up S 0 7 (nI (dyN c w r (n - 1))) → ∀ S17 : Bun, S17 = up S16 0 8 (nI (ylN c w v r n)) → ∀ S18 : Bun, S18 = va_up S17 10 (va_cpy (S17 12) (S17 10) (0 : Int32).toNatClampNeg (0 : Int32).toNatClampNeg (6 : Int32).toNatClampNeg) → ∀ S19 : Bun, S19 = va_up S18 11 (va_cpy (S18 13) (S18 11) (0 : Int32).toNatClampNeg (0 : Int32).toNatClampNeg (6 : Int32).toNatClampNeg) → wjoin (σ := Int32) (fun y6 => ∀ S10 : Bun, S10 = up S19 0 6 y6 → ∀ S11 : Bun, S11 = up S10 0 5 ((S10 0 5) + (1 : Int32)) → post S11) (fun J7 => (((S19 0 5) = 0 → J7 (nI (ylN c w v r n))) ∧ (¬ ((S19 0 5) = 0) → J7 (if (S19 0 6) < nI (ylN c w v r n) then nI (ylN c w v r n) else (S19 0 6))))) := by
    rintro hb _ rfl _ rfl _ rfl _ rfl
    refine tail _ (fun k a b => by rw [up_o (by decide), up_o (by decide), up_ki b, up_ki a]) (fun q a b d => by rw [up_o d, up_o b, up_k a, up_k a]) (fun m hm => ?_)
    rw [hb] at hm
    obtain rfl := Option.some.inj hm
    refine ⟨?_, ?_, fun k hk => ?_, fun k hk => ?_⟩
    · rw [up_o (by decide), up_o (by decide), up_ki (by decide), up_ss]
    · rw [up_o (by decide), up_o (by decide), up_ss]
    · rw [up_o (by decide), up_s, up_k (by decide), up_k (by decide), up_k (by decide), up_k (by decide)]
      have : va_cpy (S 12) (S 10) (0 : Int32).toNatClampNeg (0 : Int32).toNatClampNeg (6 : Int32).toNatClampNeg k = S 12 k := sb_cpy0 (show k < 6 by omega)
      rw [this]; exact h12 k hk
    · have hk2 := hr k hk
      rw [up_s, up_o (by decide), up_o (by decide), up_k (by decide), up_k (by decide), up_k (by decide), up_k (by decide)]
      have : va_cpy (S 13) (S 11) (0 : Int32).toNatClampNeg (0 : Int32).toNatClampNeg (6 : Int32).toNatClampNeg (r k) = S 13 (r k) := sb_cpy0 (show r k < 6 by omega)
      show va_cpy (S 13) (S 11) (0 : Int32).toNatClampNeg (0 : Int32).toNatClampNeg (6 : Int32).toNatClampNeg (r k) = _
      rw [this]; exact h13 k hk
  refine wj (wj ⟨fun z => new ?_, fun z => ⟨fun z2 => ?_, fun z2 => new ?_⟩⟩)
  · rw [r1] at z
    have : Ls.length = 0 := (nI_eq (b := 0) hlen (by decide)).mp z
    rw [List.length_eq_zero_iff.mp this]; rfl
  · obtain ⟨m, hm⟩ := bst_some (l := Ls) (fun q => z (by rw [r1, q]; rfl))
    have hlt := (r0 m (bst_mem hm)).1
    rw [(r2 m hm).1] at z2
    have := (nI_leI (by omega) (by omega)).mp z2
    refine tail S (fun _ _ _ => rfl) (fun _ _ _ _ => rfl) (fun m2 hm2 => ?_)
    rw [hm] at hm2
    have e : bup (some m) (n, r, dyN c w r (n - 1)) = some m := if_neg (by show ¬ dyN c w r (n - 1) < m.2.2; omega)
    rw [e] at hm2
    obtain rfl := Option.some.inj hm2
    exact r2 m hm
  · obtain ⟨m, hm⟩ := bst_some (l := Ls) (fun q => z (by rw [r1, q]; rfl))
    have hlt := (r0 m (bst_mem hm)).1
    rw [(r2 m hm).1] at z2
    have : ¬ m.2.2 ≤ dyN c w r (n - 1) := fun q => z2 (nI_le q (by omega))
    rw [hm]
    exact if_pos (show dyN c w r (n - 1) < m.2.2 by omega)
end
