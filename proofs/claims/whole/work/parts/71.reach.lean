/-! the model's search: reaches -/
section
variable {K B M E : Nat} {i o : Option Nat}
/-- what the model's search leaves alone -/
def Fr (S0 S : Bun) : Prop := (∀ r, r ≠ 0 → r ≠ 6 → r ≠ 7 → r ≠ 8 → r ≠ 9 → r ≠ 10 → S r = S0 r) ∧ ∀ k, k ≠ 10 → k ≠ 11 → k ≠ 12 → k ≠ 13 → S 0 k = S0 0 k
theorem Fr.rfl' (S : Bun) : Fr S S := ⟨fun _ _ _ _ _ _ _ => rfl, fun _ _ _ _ _ => rfl⟩
theorem Fr.tr {S0 S1 S2 : Bun} (h : Fr S0 S1) (h2 : Fr S1 S2) : Fr S0 S2 := ⟨fun r a b c d e f => (h2.1 r a b c d e f).trans (h.1 r a b c d e f), fun k a b c d => (h2.2 k a b c d).trans (h.2 k a b c d)⟩
theorem Fr.one {S0 S : Bun} (h : Fr S0 S) : S 1 = S0 1 := h.1 1 (by decide) (by decide) (by decide) (by decide) (by decide) (by decide)
theorem Fr.up {S0 S : Bun} (h : Fr S0 S) {r k : Nat} {v : Int32} (hr : r = 6 ∨ r = 7 ∨ r = 8 ∨ r = 9 ∨ r = 10) : Fr S0 (up S r k v) := by
  refine ⟨fun q a b c d e f => ?_, fun q a b c d => ?_⟩
  · rw [up_k (by omega)]; exact h.1 q a b c d e f
  · rw [up_k (by omega)]; exact h.2 q a b c d
/-- what is asked, in the model's row -/
def Q6 (S : Bun) (t f K T E : Nat) (i o : Option Nat) : Prop := S 1 (44 + 2 * t) = nI K ∧ S 1 (2 + (6 * f + 1)) = nI T ∧ earthOf (S 1 (2 + 6 * f)) (S 1 (2 + (6 * f + 1))) = nI E ∧ S 1 (2 + (6 * f + 2)) = gI i ∧ S 1 (2 + (6 * f + 3)) = gI o
theorem Q6.fr {S0 S : Bun} {t f K T E : Nat} {i o : Option Nat} (h : Q6 S0 t f K T E i o) (hf : Fr S0 S) : Q6 S t f K T E i o := by
  unfold Q6; rw [hf.one]; exact h
/-- what the model has found -/
def lenO (x : Option Nod) : Int32 := match x with
  | none => 0
  | some m => nI m.1
def turO (x : Option Nod) : Int32 := match x with
  | none => -1
  | some m => nI m.2.2
def RM (M : Nat) (o : Option Nat) (Ls : List Nod) (S : Bun) : Prop := (∀ m ∈ Ls, m.2.2 < 100 ∧ m.1 ≤ 16) ∧ S 0 10 = nI (Ls.filter (whl M o)).length ∧ S 0 11 = turO (bst (Ls.filter (whl M o))) ∧ S 0 13 = lenO (bst (Ls.filter (whl M o))) ∧ (∀ m, bst (Ls.filter (whl M o)) = some m → ∀ k, k < m.1 → S 10 k = nI (m.2.1 k)) ∧ S 0 12 = nI (mxo o 0 Ls)
theorem RM.same {Ls : List Nod} {S S' : Bun} (h : RM M o Ls S) (h0 : S' 0 = S 0) (h10 : S' 10 = S 10) : RM M o Ls S' := by
  unfold RM; rw [h0, h10]; exact h
theorem wj_mx {rest : Int32 → Prop} {a b : Int32} (h1 : a ≤ b → rest b) (h0 : ¬ a ≤ b → rest a) : wjoin rest (fun J8 => ((a ≤ b → J8 b) ∧ (¬ (a ≤ b) → J8 a))) := wj ⟨h1, h0⟩
theorem reaches6 {S : Bun} {J : Lon} {t f T n tu : Nat} {w : Nat → Nat} {Ls : List Nod} (hf : f < 6) (hE : E < 65536) (ho : gOk o) (hQ : Q6 S t f K T E i o) (hM : M = cdN E) (hR : RM M o Ls S) (hn : 1 ≤ n) (hn16 : n ≤ 16) (hw : ∀ k, k < n → S 6 k = nI (w k)) (hw16 : ∀ k, k < n → w k < 16) (htu : tu < 100) (h9 : S 9 (n - 1) = nI tu) {post : Bun → Prop} (h : ∀ S' : Bun, (∀ r, r ≠ 0 → r ≠ 10 → S' r = S r) → (∀ k, k ≠ 10 → k ≠ 11 → k ≠ 12 → k ≠ 13 → S' 0 k = S 0 k) → RM M o (Ls ++ [(n, w, tu)]) S' → post S') : wX6_reaches S J (nI f) (nI n) post := by
  obtain ⟨q1, q2, q3, q4, q5⟩ := hQ
  obtain ⟨r0, r1, r2, r3, r4, r5⟩ := hR
  have hl := hw16 (n - 1) (by omega)
  have en : nI n - (1 : Int32) = nI (n - 1) := by
    obtain ⟨m, rfl⟩ : ∃ m, n = m + 1 := ⟨n - 1, by omega⟩
    exact nI_pred m
  have vn : vp_in (nI (n - 1)) 16 := vp_in_nI (by omega) (by decide)
  have g16 : mxo o 0 Ls ≤ 16 := mxo_bd (fun m hm _ => (r0 m hm).2) (by omega)
  unfold wX6_reaches
  rw [en, tn_nI (by omega)]
  refine ⟨vn, ?_⟩
  rintro _ rfl
  rw [hw (n - 1) (by omega)]
  refine its6 (w := 3) hf (by decide) ?_
  rw [q5]
  have b0 : ∀ m ∈ Ls ++ [(n, w, tu)], m.2.2 < 100 ∧ m.1 ≤ 16 := by
    intro m hm
    rcases List.mem_append.mp hm with hm | hm
    · exact r0 m hm
    · rw [List.mem_singleton.mp hm]; exact ⟨htu, hn16⟩
  have mx : mxo o 0 (Ls ++ [(n, w, tu)]) = if okO o (n, w, tu) then max (mxo o 0 Ls) n else mxo o 0 Ls := by rw [mxo_app]; rfl
  have fl : (Ls ++ [(n, w, tu)]).filter (whl M o) = Ls.filter (whl M o) ++ (if whl M o (n, w, tu) then [(n, w, tu)] else []) := by
    rw [List.filter_append, List.filter_cons]; rfl
  -- not taken
  have no : okO o (n, w, tu) = false → post S := by
    intro hok
    have e : whl M o (n, w, tu) = false := by unfold whl; rw [hok, Bool.and_false]
    rw [e, if_neg (by decide), List.append_nil] at fl
    rw [hok, if_neg (by decide)] at mx
    refine h S (fun _ _ _ => rfl) (fun _ _ _ _ _ => rfl) ?_
    unfold RM
    rw [fl, mx]
    exact ⟨b0, r1, r2, r3, r4, r5⟩
  -- taken: the longest first
  have yes : okO o (n, w, tu) = true → ∀ y7 : Int32, y7 = nI (max (mxo o 0 Ls) n) → ∀ S11 : Bun, S11 = up S 0 12 y7 → wX6_earth S11 J (nI f) (fun r12 => wX6_ones r12 (fun r14 => ((nI n = r14 → ∀ S16 : Bun, S16 = up S11 0 10 ((S11 0 10) + (1 : Int32)) → wjoin (σ := Unit) (fun _ => vp_in (nI (n - 1)) 16 ∧ ∀ S20 : Bun, S20 = up S16 0 11 (S16 9 (n - 1)) → ∀ S21 : Bun, S21 = up S20 0 13 (nI n) → wloop (σ := Int32 × Bun) (fun K24 z => match z with | (x22, S23) => ((nI n ≤ x22 → post S23) ∧ (¬ (nI n ≤ x22) → vp_in x22 16 ∧ vp_in x22 16 ∧ ∀ S30 : Bun, S30 = up S23 10 x22.toNatClampNeg (S23 6 x22.toNatClampNeg) → ∀ x31 : Int32, x31 = x22 + (1 : Int32) → K24 (x31, S30)))) ((0 : Int32), S21)) (fun J17 => (((S16 0 11) < 0 → J17 ()) ∧ (¬ ((S16 0 11) < 0) → vp_in (nI (n - 1)) 16 ∧ (((S16 0 11) ≤ (S16 9 (n - 1)) → post S16) ∧ (¬ ((S16 0 11) ≤ (S16 9 (n - 1))) → J17 ())))))) ∧ (¬ (nI n = r14) → post S11)))) := by
    rintro hok _ rfl _ rfl
    rw [hok, if_pos rfl] at mx
    refine earth6 hf ?_
    rw [up_k (by decide), q3]
    refine ones_n hE ?_
    rw [cd_pc hE]
    have c16 := cd_le E
    rw [show nI n = nI (cdN E) ↔ n = cdN E from nI_eq (by omega) (by omega)]
    refine ⟨fun hz => ?_, fun hz => ?_⟩
    · rintro _ rfl
      have e : whl M o (n, w, tu) = true := by
        unfold whl
        rw [hok, Bool.and_true, hM]
        exact beq_iff_eq.mpr hz
      rw [e, if_pos rfl] at fl
      have s10 : ∀ r, r ≠ 0 → up (up S 0 12 (nI (max (mxo o 0 Ls) n))) 0 10 (up S 0 12 (nI (max (mxo o 0 Ls) n)) 0 10 + 1) r = S r := fun r hr => by rw [up_k hr, up_k hr]
      have s011 : up (up S 0 12 (nI (max (mxo o 0 Ls) n))) 0 10 (up S 0 12 (nI (max (mxo o 0 Ls) n)) 0 10 + 1) 0 11 = turO (bst (Ls.filter (whl M o))) := by rw [up_ki (by decide), up_ki (by decide)]; exact r2
      rw [s011, s10 9 (by decide), h9]
      have cnt : up (up S 0 12 (nI (max (mxo o 0 Ls) n))) 0 10 (up S 0 12 (nI (max (mxo o 0 Ls) n)) 0 10 + 1) 0 10 = nI (Ls.filter (whl M o) ++ [(n, w, tu)]).length := by
        rw [up_ss, up_ki (by decide), r1, List.length_append]; exact nI_1 _
      have lon : up (up S 0 12 (nI (max (mxo o 0 Ls) n))) 0 10 (up S 0 12 (nI (max (mxo o 0 Ls) n)) 0 10 + 1) 0 12 = nI (max (mxo o 0 Ls) n) := by
        rw [up_ki (by decide), up_ss]
      have oth : ∀ k, k ≠ 10 → k ≠ 12 → up (up S 0 12 (nI (max (mxo o 0 Ls) n))) 0 10 (up S 0 12 (nI (max (mxo o 0 Ls) n)) 0 10 + 1) 0 k = S 0 k := fun k a b => by rw [up_ki a, up_ki b]
      generalize up (up S 0 12 (nI (max (mxo o 0 Ls) n))) 0 10 (up S 0 12 (nI (max (mxo o 0 Ls) n)) 0 10 + 1) = S16 at s10 cnt lon oth
      have UPD : bup (bst (Ls.filter (whl M o))) (n, w, tu) = some (n, w, tu) → vp_in (nI (n - 1)) 16 ∧ ∀ S20 : Bun, S20 = up S16 0 11 (nI tu) → ∀ S21 : Bun, S21 = up S20 0 13 (nI n) → wloop (σ := Int32 × Bun) (fun K24 z => match z with | (x22, S23) => ((nI n ≤ x22 → post S23) ∧ (¬ (nI n ≤ x22) → vp_in x22 16 ∧ vp_in x22 16 ∧ ∀ S30 : Bun, S30 = up S23 10 x22.toNatClampNeg (S23 6 x22.toNatClampNeg) → ∀ x31 : Int32, x31 = x22 + (1 : Int32) → K24 (x31, S30)))) ((0 : Int32), S21) := by
        intro hb
        refine ⟨vn, ?_⟩
        rintro _ rfl _ rfl
        refine wl_up2 (fun j x S4 => x = nI j ∧ (∀ r, r ≠ 0 → r ≠ 10 → S4 r = S r) ∧ S4 0 = up (up S16 0 11 (nI tu)) 0 13 (nI n) 0 ∧ ∀ k, k < j → S4 10 k = nI (w k)) n ?_ (i := 0) (by omega) ⟨rfl, fun r a b => by rw [up_k a, up_k a]; exact s10 r a, rfl, fun k hk => absurd hk (by omega)⟩
        rintro j x S4 KK hj ⟨rfl, k1, k2, k3⟩ hKK
        refine ⟨fun hc => ?_, fun hc => ?_⟩
        · have := (nI_leI (by omega) (by omega)).mp hc
          obtain rfl : j = n := by omega
          refine h S4 k1 (fun k a b c d => by rw [k2, up_ki d, up_ki b]; exact oth k a c) ?_
          unfold RM
          rw [fl, mx, bst_snoc, hb, k2]
          refine ⟨b0, ?_, ?_, ?_, fun m hm k hk => ?_, ?_⟩
          · rw [up_ki (by decide), up_ki (by decide)]; exact cnt
          · rw [up_ki (by decide), up_ss]; rfl
          · rw [up_ss]; rfl
          · obtain rfl := Option.some.inj hm
            exact k3 k hk
          · rw [up_ki (by decide), up_ki (by decide)]; exact lon
        · have hlt : j < n := by
            rcases Nat.lt_or_ge j n with h' | h'
            · exact h'
            · exact absurd (nI_le h' (by omega)) hc
          have vj : vp_in (nI j) 16 := vp_in_nI (by omega) (by decide)
          refine ⟨vj, vj, ?_⟩
          rintro _ rfl _ rfl
          rw [tn_nI (by omega)]
          refine hKK _ _ hlt ⟨nI_1 j, fun r a b => by rw [up_k b]; exact k1 r a b, by rw [up_k (by decide)]; exact k2, fun k hk => ?_⟩
          rw [up_eq]
          by_cases e : k = j
          · rw [if_pos ⟨rfl, e⟩, k1 6 (by decide) (by decide), e]; exact hw j hlt
          · rw [if_neg (fun z => e z.2)]; exact k3 k (by omega)
      refine wj ?_
      cases hbs : bst (Ls.filter (whl M o)) with
      | none =>
        rw [hbs] at UPD
        exact br_t (by show turO none < 0; decide) (UPD rfl)
      | some m =>
        have hlt := (r0 m (List.mem_filter.mp (bst_mem hbs)).1).1
        rw [hbs] at UPD
        refine br_f (show ¬ nI m.2.2 < 0 from nI_pos (by omega)) ⟨vn, ?_⟩
        rw [show turO (some m) ≤ nI tu ↔ m.2.2 ≤ tu from nI_leI (by omega) (by omega)]
        refine ⟨fun y => ?_, fun y => UPD (if_pos (show tu < m.2.2 by omega))⟩
        refine h S16 (fun r a _ => s10 r a) (fun k a _ c _ => oth k a c) ?_
        have eb : bup (some m) (n, w, tu) = some m := if_neg (by show ¬ tu < m.2.2; omega)
        unfold RM
        rw [fl, mx, bst_snoc, hbs, eb]
        rw [hbs] at r2 r3 r4
        exact ⟨b0, cnt, by rw [oth 11 (by decide) (by decide)]; exact r2, by rw [oth 13 (by decide) (by decide)]; exact r3, by rw [s10 10 (by decide)]; exact r4, lon⟩
    · have e : whl M o (n, w, tu) = false := by
        unfold whl
        rw [hM, show ((n, w, tu) : Nod).1 = n from rfl, beq_eq_false_iff_ne.mpr hz, Bool.false_and]
      rw [e, if_neg (by decide), List.append_nil] at fl
      refine h _ (fun r a b => by rw [up_k a]) (fun k a b c d => by rw [up_ki c]) ?_
      unfold RM
      rw [fl, mx]
      refine ⟨b0, by rw [up_ki (by decide)]; exact r1, by rw [up_ki (by decide)]; exact r2, by rw [up_ki (by decide)]; exact r3, by rw [up_k (by decide)]; exact r4, up_ss⟩
  have m1 : nI n ≤ S 0 12 → S 0 12 = nI (max (mxo o 0 Ls) n) := by
    intro z
    rw [r5] at z ⊢
    have := (nI_leI (by omega) (by omega)).mp z
    rw [Nat.max_eq_left this]
  have m2 : ¬ nI n ≤ S 0 12 → nI n = nI (max (mxo o 0 Ls) n) := by
    intro z
    rw [r5] at z
    have : ¬ n ≤ mxo o 0 Ls := fun q => z (nI_le q (by omega))
    rw [Nat.max_eq_right (by omega)]
  refine wj ?_
  cases o with
  | none => exact br_t (by decide) (wj_mx (fun z => yes rfl _ (m1 z)) (fun z => yes rfl _ (m2 z)))
  | some q =>
    have hq := ho q rfl
    refine br_f (nI_pos (by omega)) (its6 (w := 3) hf (by decide) ?_)
    rw [q5, show gI (some q) = nI (w (n - 1)) ↔ q = w (n - 1) from nI_eq (by omega) (by omega)]
    refine ⟨fun z => ?_, fun z => no ?_⟩
    · have hok : okO (some q) (n, w, tu) = true := by
        show (w (n - 1) == q) = true
        rw [z]; exact beq_self_eq_true _
      exact wj_mx (fun z => yes hok _ (m1 z)) (fun z => yes hok _ (m2 z))
    show (w (n - 1) == q) = false
    exact beq_eq_false_iff_ne.mpr (fun y => z y.symm)
end
