/-! steps: cells beside, kinds, may -/
section
def okKB (k w : Nat) : Bool := (w == 0) || (k == w) || (w == 1 && k == 4) || (w == 3 && k == 5)
theorem isOf5 {k w : Nat} (hk : k < 6) (hw : w < 6) {post : Int32 → Prop} (h : post (bI (okKB k w))) : wX5_isOfKind (nI k) (nI w) post := by
  unfold wX5_isOfKind
  refine ⟨vp_in_nI hk (by decide), ?_⟩
  rw [tn_nI (by omega), okK5 k hk w hw]
  have e : okKB k w = true ↔ okK k w := (show ∀ k, k < 6 → ∀ w, w < 6 → (okKB k w = true ↔ okK k w) by unfold okKB okK; decide) k hk w hw
  cases hb : okKB k w
  · rw [hb] at h e; exact br_t (fun q => absurd (e.mpr q) (by decide)) h
  · rw [hb] at h e; exact br_f (fun q => q (e.mp rfl)) h
def turnN (b : Option Nat) (d : Nat) : Bool := match b with
  | none => false
  | some x => x != d
def byN (b : Option Nat) (d : Nat) : Nat := match b with
  | none => 0
  | some x => (d + 4 - x) % 4
def mayB (k : Nat) (near turn : Bool) (m : Nat) (t : Bool) : Bool :=
  !(turn && ((m == 1 && okKB k 1) || (m == 3 && okKB k 2) || (t && okKB k 3))) && !(near && okKB k 4)
def mayN (k : Nat) (near : Bool) (b : Option Nat) (d : Nat) (t : Bool) : Bool := mayB k near (turnN b d) (byN b d) t
def dOk (b : Option Nat) : Prop := ∀ x, b = some x → x < 4
theorem turn5 {b : Option Nat} {d : Nat} (hb : dOk b) (hd : d < 4) {post : Int32 → Prop} (h : post (bI (turnN b d))) : wX5_isTurn (gI b) (nI d) post := by
  unfold wX5_isTurn
  cases b with
  | none => exact br_t (by decide) h
  | some x =>
    have hx := hb x rfl
    refine br_f (nI_pos (by omega)) ?_
    have e : (gI (some x) = nI d) ↔ x = d := nI_eq (by omega) (by omega)
    rw [e]
    have t : turnN (some x) d = (x != d) := rfl
    rw [t] at h
    by_cases q : x = d
    · refine br_t q ?_
      rw [q, bne_self_eq_false] at h; exact h
    · refine br_f q ?_
      rw [bne_iff_ne.mpr q] at h; exact h
theorem turnj {b : Option Nat} {d : Nat} (hb : dOk b) (hd : d < 4) {rest : Int32 → Prop} (h : rest (bI (turnN b d))) : wjoin rest (fun J => ((gI b < 0 → J 0) ∧ (¬ (gI b < 0) → ((gI b = nI d → J 0) ∧ (¬ (gI b = nI d) → J 1))))) := wj (turn5 hb hd h)
theorem by_lt (b : Option Nat) (d : Nat) : byN b d < 4 := by
  cases b with
  | none => exact (by decide : 0 < 4)
  | some x => exact Nat.mod_lt _ (by decide)
theorem may_core {k m : Nat} {t : Bool} {H P0 : Prop} (hk : k < 6) (hm : m < 4) (fin : ((m == 1 && okKB k 1) || (m == 3 && okKB k 2) || (t && okKB k 3)) = false → H) (bad : ((m == 1 && okKB k 1) || (m == 3 && okKB k 2) || (t && okKB k 3)) = true → P0) :
    wjoin (σ := Unit) (fun _ => wjoin (σ := Unit) (fun _ => ((bI t = 0 → H) ∧ (¬ (bI t = 0) → wX5_isOfKind (nI k) (3 : Int32) (fun r19 => ((r19 = 0 → H) ∧ (¬ (r19 = 0) → P0)))))) (fun J16 => ((nI m = (3 : Int32) → wX5_isOfKind (nI k) (2 : Int32) (fun r23 => ((r23 = 0 → J16 ()) ∧ (¬ (r23 = 0) → P0)))) ∧ (¬ (nI m = (3 : Int32)) → J16 ())))) (fun J13 => ((nI m = (1 : Int32) → wX5_isOfKind (nI k) (1 : Int32) (fun r27 => ((r27 = 0 → J13 ()) ∧ (¬ (r27 = 0) → P0)))) ∧ (¬ (nI m = (1 : Int32)) → J13 ()))) := by
  have q1 : nI m = (1 : Int32) ↔ m = 1 := nI_eq (b := 1) (by omega) (by decide)
  have q3 : nI m = (3 : Int32) ↔ m = 3 := nI_eq (b := 3) (by omega) (by decide)
  have T : (m == 1 && okKB k 1) = false → (m == 3 && okKB k 2) = false → ((bI t = 0 → H) ∧ (¬ (bI t = 0) → wX5_isOfKind (nI k) (3 : Int32) (fun r19 => ((r19 = 0 → H) ∧ (¬ (r19 = 0) → P0))))) := by
    intro x1 x2
    rw [x1, x2, Bool.false_or, Bool.false_or] at fin bad
    refine br_b (fun ht => ?_) (fun ht => ?_)
    · exact fin (by rw [ht]; rfl)
    · rw [ht, Bool.true_and] at fin bad
      exact isOf5 (w := 3) hk (by decide) (br_b fin bad)
  have U : (m == 1 && okKB k 1) = false → wjoin (σ := Unit) (fun _ => ((bI t = 0 → H) ∧ (¬ (bI t = 0) → wX5_isOfKind (nI k) (3 : Int32) (fun r19 => ((r19 = 0 → H) ∧ (¬ (r19 = 0) → P0)))))) (fun J16 => ((nI m = (3 : Int32) → wX5_isOfKind (nI k) (2 : Int32) (fun r23 => ((r23 = 0 → J16 ()) ∧ (¬ (r23 = 0) → P0)))) ∧ (¬ (nI m = (3 : Int32)) → J16 ()))) := by
    intro x1
    refine wj ⟨fun h => ?_, fun h => ?_⟩
    · rw [q3] at h
      refine isOf5 (w := 2) hk (by decide) (br_b (fun z => T x1 (by rw [z, Bool.and_false])) (fun z => bad ?_))
      rw [z, h]; simp
    · rw [q3] at h
      exact T x1 (by rw [beq_eq_false_iff_ne.mpr h, Bool.false_and])
  refine wj ⟨fun h => ?_, fun h => ?_⟩
  · rw [q1] at h
    refine isOf5 (w := 1) hk (by decide) (br_b (fun z => U (by rw [z, Bool.and_false])) (fun z => bad ?_))
    rw [z, h]; simp
  · rw [q1] at h
    exact U (by rw [beq_eq_false_iff_ne.mpr h, Bool.false_and])
theorem mayStep5 {k c d : Nat} {bs : Int32} {b : Option Nat} {t : Bool} (hk : k < 6) (hc : c < 16) (hb : dOk b) (hd : d < 4) {post : Int32 → Prop} (h : post (bI (mayN k (bt bs c) b d t))) : wX5_mayStep (nI k) bs (nI c) (gI b) (nI d) (bI t) post := by
  unfold wX5_mayStep
  unfold mayN mayB at h
  refine turn5 hb hd (wj ?_)
  have fin : (turnN b d && ((byN b d == 1 && okKB k 1) || (byN b d == 3 && okKB k 2) || (t && okKB k 3))) = false → wX5_holds bs (nI c) (fun r6 => ((r6 = 0 → post (1 : Int32)) ∧ (¬ (r6 = 0) → wX5_isOfKind (nI k) (4 : Int32) (fun r8 => ((r8 = 0 → post (1 : Int32)) ∧ (¬ (r8 = 0) → post (0 : Int32))))))) := by
    intro q
    rw [q, Bool.not_false, Bool.true_and] at h
    refine holds_b (by omega) (fun n => ?_) (fun n => ?_)
    · rw [n] at h
      refine br_f (by decide) (isOf5 (w := 4) hk (by decide) ?_)
      cases hz : okKB k 4
      · rw [hz] at h; exact br_t rfl h
      · rw [hz] at h; exact br_f (by decide) h
    · rw [n] at h; exact br_t rfl h
  have bad : (turnN b d && ((byN b d == 1 && okKB k 1) || (byN b d == 3 && okKB k 2) || (t && okKB k 3))) = true → post (0 : Int32) := by
    intro q
    rw [q] at h; exact h
  cases hT : turnN b d
  · exact br_t rfl (fin (by rw [hT]; rfl))
  · refine br_f (by decide) ?_
    rw [hT, Bool.true_and] at fin bad
    rintro _ rfl
    cases b with
    | none => exact absurd hT Bool.false_ne_true
    | some x =>
      have hx := hb x rfl
      have em : (nI d - gI (some x)) &&& 3 = nI (byN (some x) d) := (show ∀ d, d < 4 → ∀ x, x < 4 → (nI d - nI x) &&& 3 = nI ((d + 4 - x) % 4) by decide +kernel) d hd x hx
      rw [em]
      exact may_core hk (by_lt _ _) fin bad
/-- the cell in a direction -/
def nbN (c d : Nat) : Option Nat := if d = 0 then (if c < 4 then none else some (c - 4)) else if d = 1 then (if c % 4 = 3 then none else some (c + 1)) else if d = 2 then (if c < 12 then some (c + 4) else none) else (if c % 4 = 0 then none else some (c - 1))
theorem nb_lt {c d x : Nat} (hc : c < 16) (hd : d < 4) (h : nbN c d = some x) : x < 16 := by
  have : ∀ c, c < 16 → ∀ d, d < 4 → ∀ x, nbN c d = some x → x < 16 := by
    intro c hc d hd x h
    unfold nbN at h
    repeat' split at h
    all_goals first | (cases h; done) | (cases h; omega)
  exact this c hc d hd x h
theorem nb_ok {c d : Nat} (hc : c < 16) (hd : d < 4) : gOk (nbN c d) := fun _ h => nb_lt hc hd h
theorem towards5 {c d : Nat} (hc : c < 16) (hd : d < 4) {post : Int32 → Prop} (h : post (gI (nbN c d))) : wX5_cellTowards (nI c) (nI d) post := by
  unfold wX5_cellTowards
  rintro _ rfl
  have no : ∀ {P : Prop} {k : Nat} {v : Int32}, d ≠ k → k < 4 → v = nI k → (nI d = v → P) := fun hne hk e q => absurd ((nI_eq (by omega) (by omega)).mp (q.trans e)) hne
  have l4 : nI c < (4 : Int32) ↔ c < 4 := nI_ltI (b := 4) (by omega) (by decide)
  have l12 : (12 : Int32) ≤ nI c ↔ 12 ≤ c := nI_leI (a := 12) (by decide) (by omega)
  have l3 : (3 : Int32) ≤ (nI c &&& (3 : Int32)) ↔ c % 4 = 3 := (show ∀ c, c < 16 → ((3 : Int32) ≤ (nI c &&& (3 : Int32)) ↔ c % 4 = 3) by decide +kernel) c hc
  have l0 : (nI c &&& (3 : Int32)) ≤ 0 ↔ c % 4 = 0 := (show ∀ c, c < 16 → ((nI c &&& (3 : Int32)) ≤ 0 ↔ c % 4 = 0) by decide +kernel) c hc
  have ti := nI_toInt (n := d) (by omega)
  rw [l4, l12, l3, l0, ti]
  match d, hd with
  | 0, _ =>
    refine ⟨fun _ => ⟨fun q => ?_, fun q => ?_⟩, no (k := 1) (by decide) (by decide) rfl, no (k := 2) (by decide) (by decide) rfl, fun q => absurd q (by decide)⟩
    · have e : nbN c 0 = none := if_pos q
      rw [e] at h; exact h
    · have e : nbN c 0 = some (c - 4) := if_neg q
      rw [e] at h
      have e2 : gI (some (c - 4)) = nI c - 4 := (show ∀ c, c < 16 → 4 ≤ c → nI (c - 4) = nI c - 4 by decide +kernel) c hc (by omega)
      rw [e2] at h; exact h
  | 1, _ =>
    refine ⟨no (k := 0) (by decide) (by decide) rfl, fun _ => ⟨fun q => ?_, fun q => ?_⟩, no (k := 2) (by decide) (by decide) rfl, fun q => absurd q (by decide)⟩
    · have e : nbN c 1 = none := if_pos q
      rw [e] at h; exact h
    · have e : nbN c 1 = some (c + 1) := if_neg q
      rw [e] at h
      have e2 : gI (some (c + 1)) = nI c + 1 := (nI_add c 1).symm
      rw [e2] at h; exact h
  | 2, _ =>
    refine ⟨no (k := 0) (by decide) (by decide) rfl, no (k := 1) (by decide) (by decide) rfl, fun _ => ⟨fun q => ?_, fun q => ?_⟩, fun q => absurd q (by decide)⟩
    · have e : nbN c 2 = none := if_neg (show ¬ c < 12 by omega)
      rw [e] at h; exact h
    · have e : nbN c 2 = some (c + 4) := if_pos (show c < 12 by omega)
      rw [e] at h
      have e2 : gI (some (c + 4)) = nI c + 4 := (nI_add c 4).symm
      rw [e2] at h; exact h
  | 3, _ =>
    refine ⟨no (k := 0) (by decide) (by decide) rfl, no (k := 1) (by decide) (by decide) rfl, no (k := 2) (by decide) (by decide) rfl, fun _ => ⟨fun q => ?_, fun q => ?_⟩⟩
    · have e : nbN c 3 = none := if_pos q
      rw [e] at h; exact h
    · have e : nbN c 3 = some (c - 1) := if_neg q
      rw [e] at h
      have e2 : gI (some (c - 1)) = nI c - 1 := (show ∀ c, c < 16 → 1 ≤ c → nI (c - 1) = nI c - 1 by decide +kernel) c hc (by omega)
      rw [e2] at h; exact h
theorem beside6 {c d : Nat} (hc : c < 16) (hd : d < 4) {post : Int32 → Prop} (h : post (gI (nbN c d))) : wX6_beside (nI c) (nI d) post := by
  unfold wX6_beside
  rintro _ rfl
  have no : ∀ {P : Prop} {k : Nat} {v : Int32}, d ≠ k → k < 4 → v = nI k → (nI d = v → P) := fun hne hk e q => absurd ((nI_eq (by omega) (by omega)).mp (q.trans e)) hne
  have l4 : (4 : Int32) ≤ nI c ↔ 4 ≤ c := nI_leI (a := 4) (by decide) (by omega)
  have l12 : nI c ≤ (11 : Int32) ↔ c ≤ 11 := nI_leI (b := 11) (by omega) (by decide)
  have l3 : (nI c - nI c / (4 : Int32) * (4 : Int32)) = (3 : Int32) ↔ c % 4 = 3 := (show ∀ c, c < 16 → ((nI c - nI c / (4 : Int32) * (4 : Int32)) = (3 : Int32) ↔ c % 4 = 3) by decide +kernel) c hc
  have l0 : (nI c - nI c / (4 : Int32) * (4 : Int32)) = 0 ↔ c % 4 = 0 := (show ∀ c, c < 16 → ((nI c - nI c / (4 : Int32) * (4 : Int32)) = 0 ↔ c % 4 = 0) by decide +kernel) c hc
  have ti := nI_toInt (n := d) (by omega)
  rw [l4, l12, l3, l0, ti]
  match d, hd with
  | 0, _ =>
    refine ⟨fun _ => ⟨fun q => ?_, fun q => ?_⟩, no (k := 1) (by decide) (by decide) rfl, no (k := 2) (by decide) (by decide) rfl, fun q => absurd q (by decide)⟩
    · have e : nbN c 0 = some (c - 4) := if_neg (show ¬ c < 4 by omega)
      rw [e] at h
      have e2 : gI (some (c - 4)) = nI c - 4 := (show ∀ c, c < 16 → 4 ≤ c → nI (c - 4) = nI c - 4 by decide +kernel) c hc (by omega)
      rw [e2] at h; exact h
    · have e : nbN c 0 = none := if_pos (show c < 4 by omega)
      rw [e] at h; exact h
  | 1, _ =>
    refine ⟨no (k := 0) (by decide) (by decide) rfl, fun _ => ⟨fun q => ?_, fun q => ?_⟩, no (k := 2) (by decide) (by decide) rfl, fun q => absurd q (by decide)⟩
    · have e : nbN c 1 = none := if_pos q
      rw [e] at h; exact h
    · have e : nbN c 1 = some (c + 1) := if_neg q
      rw [e] at h
      have e2 : gI (some (c + 1)) = nI c + 1 := (nI_add c 1).symm
      rw [e2] at h; exact h
  | 2, _ =>
    refine ⟨no (k := 0) (by decide) (by decide) rfl, no (k := 1) (by decide) (by decide) rfl, fun _ => ⟨fun q => ?_, fun q => ?_⟩, fun q => absurd q (by decide)⟩
    · have e : nbN c 2 = some (c + 4) := if_pos (show c < 12 by omega)
      rw [e] at h
      have e2 : gI (some (c + 4)) = nI c + 4 := (nI_add c 4).symm
      rw [e2] at h; exact h
    · have e : nbN c 2 = none := if_neg (show ¬ c < 12 by omega)
      rw [e] at h; exact h
  | 3, _ =>
    refine ⟨no (k := 0) (by decide) (by decide) rfl, no (k := 1) (by decide) (by decide) rfl, no (k := 2) (by decide) (by decide) rfl, fun _ => ⟨fun q => ?_, fun q => ?_⟩⟩
    · have e : nbN c 3 = none := if_pos q
      rw [e] at h; exact h
    · have e : nbN c 3 = some (c - 1) := if_neg q
      rw [e] at h
      have e2 : gI (some (c - 1)) = nI c - 1 := (show ∀ c, c < 16 → 1 ≤ c → nI (c - 1) = nI c - 1 by decide +kernel) c hc (by omega)
      rw [e2] at h; exact h
/-- a tree beside a cell -/
def nbB (T : Nat) : Option Nat → Bool
  | none => false
  | some x => T.testBit x
def nearN (T c : Nat) : Bool := nbB T (nbN c 0) || nbB T (nbN c 1) || nbB T (nbN c 2) || nbB T (nbN c 3)
def nearTo (T c : Nat) : Nat → Bool
  | 0 => false
  | i + 1 => nearTo T c i || nbB T (nbN c i)
theorem byTree6 {S : Bun} {J : Lon} {f c T : Nat} (hf : f < 6) (hc : c < 16) (eT : S 1 (2 + (6 * f + 1)) = nI T) {post : Int32 → Prop} (h : post (bI (nearN T c))) : wX6_isByTree S J (nI f) (nI c) post := by
  unfold wX6_isByTree
  refine wl_up2 (fun i x y => x = bI (nearTo T c i) ∧ y = nI i) 4 ?_ (i := 0) (by decide) ⟨rfl, rfl⟩
  rintro i x y K hi ⟨rfl, rfl⟩ hK
  refine ⟨fun h4 => ?_, fun h4 => ?_⟩
  · have : i = 4 := by
      have := (nI_leI (a := 4) (by decide) (by omega)).mp h4
      omega
    subst this
    have e : nearTo T c 4 = nearN T c := by
      show (((false || nbB T (nbN c 0)) || nbB T (nbN c 1)) || nbB T (nbN c 2) || nbB T (nbN c 3)) = _
      rw [Bool.false_or]; rfl
    rw [e]
    exact ⟨bI_zb _, h⟩
  · have hlt : i < 4 := by
      rcases Nat.lt_or_ge i 4 with h' | h'
      · exact h'
      · exact absurd (nI_le (a := 4) h' (by omega)) h4
    refine beside6 hc hlt ?_
    have st : nearTo T c (i + 1) = (nearTo T c i || nbB T (nbN c i)) := rfl
    have go : ∀ b : Bool, b = nearTo T c (i + 1) → ∀ x13 : Int32, x13 = nI i + 1 → K (bI b, x13) := by
      rintro b rfl _ rfl
      exact hK _ _ hlt ⟨rfl, nI_1 i⟩
    refine br_b (fun hz => ?_) (fun hz => ?_)
    · rw [hz, Bool.false_or] at st
      cases hb : nbN c i with
      | none =>
        rw [hb] at st
        exact br_t (by decide) (go false st.symm)
      | some z =>
        have hz16 := nb_lt hc hlt hb
        rw [hb] at st
        refine br_f (nI_pos (by omega)) (its6 (w := 1) hf (by decide) ?_)
        rw [eT]
        refine has_b (by omega) (fun q => br_f (by decide) (go true ?_)) (fun q => br_t rfl (go false ?_))
        · rw [bt_nI (by omega)] at q; rw [st]; exact q.symm
        · rw [bt_nI (by omega)] at q; rw [st]; exact q.symm
    · exact go true (by rw [st, hz, Bool.true_or])
def cbI (x : Int32) : Int32 := (((((x &&& (61166 : Int32)) >>> ((1 : Int32) &&& 31)) ||| ((x &&& (30583 : Int32)) <<< ((1 : Int32) &&& 31))) ||| (x >>> ((4 : Int32) &&& 31))) ||| (x <<< ((4 : Int32) &&& 31))) &&& (65535 : Int32)
theorem cellsBeside5 {x : Int32} {post : Int32 → Prop} (h : post (cbI x)) : wX5_cellsBeside x post := by
  unfold wX5_cellsBeside
  rintro _ rfl
  exact h
theorem cb_bit {T c : Nat} (hT : T < 65536) (hc : c < 16) : bt (cbI (nI T)) c = nearN T c := by
  have hi : ∀ k, 16 ≤ k → T.testBit k = false := fun k hk => Nat.testBit_lt_two_pow (Nat.lt_of_lt_of_le hT (Nat.pow_le_pow_right (n := 2) (by decide) hk))
  have a1 : ∀ k, k < 32 → bt (61166 : Int32) k = (61166 : Nat).testBit k := fun k hk => bt_nI (n := 61166) hk
  have a2 : ∀ k, k < 32 → bt (30583 : Int32) k = (30583 : Nat).testBit k := fun k hk => bt_nI (n := 30583) hk
  have e : bt (cbI (nI T)) c = (((((T.testBit (1 + c) && (61166 : Nat).testBit (1 + c)) || (decide (1 ≤ c) && (T.testBit (c - 1) && (30583 : Nat).testBit (c - 1)))) || T.testBit (4 + c)) || (decide (4 ≤ c) && T.testBit (c - 4))) && true) := by
    unfold cbI
    have s1 := b_sshr 1 (by decide) (nI T &&& (61166 : Int32)) (i := c) (by omega)
    have s2 := b_shl 1 (by decide) (nI T &&& (30583 : Int32)) (i := c) (by omega)
    have s3 := b_sshr 4 (by decide) (nI T) (i := c) (by omega)
    have s4 := b_shl 4 (by decide) (nI T) (i := c) (by omega)
    rw [if_pos (by omega), b_and, bt_nI (by omega), a1 _ (by omega)] at s1
    rw [b_and, bt_nI (by omega), a2 _ (by omega)] at s2
    rw [if_pos (by omega), bt_nI (by omega)] at s3
    rw [bt_nI (by omega)] at s4
    rw [b_and, b_or, b_or, b_or, b_65535, decide_eq_true hc]
    exact congrArg (· && true) (congr (congrArg or (congr (congrArg or (congr (congrArg or s1) s2)) s3)) s4)
  rw [e]
  unfold nearN
  match c, hc with
  | 0, _ =>
    show (((((T.testBit 1 && true) || (false && (T.testBit 0 && true))) || T.testBit 4) || (false && T.testBit 0)) && true) = (false || T.testBit 1 || T.testBit 4 || false)
    generalize T.testBit 0 = p0
    generalize T.testBit 1 = p1
    generalize T.testBit 4 = p4
    revert p0 p1 p4
    decide
  | 1, _ =>
    show (((((T.testBit 2 && true) || (true && (T.testBit 0 && true))) || T.testBit 5) || (false && T.testBit 0)) && true) = (false || T.testBit 2 || T.testBit 5 || T.testBit 0)
    generalize T.testBit 0 = p0
    generalize T.testBit 2 = p2
    generalize T.testBit 5 = p5
    revert p0 p2 p5
    decide
  | 2, _ =>
    show (((((T.testBit 3 && true) || (true && (T.testBit 1 && true))) || T.testBit 6) || (false && T.testBit 0)) && true) = (false || T.testBit 3 || T.testBit 6 || T.testBit 1)
    generalize T.testBit 0 = p0
    generalize T.testBit 1 = p1
    generalize T.testBit 3 = p3
    generalize T.testBit 6 = p6
    revert p0 p1 p3 p6
    decide
  | 3, _ =>
    show (((((T.testBit 4 && false) || (true && (T.testBit 2 && true))) || T.testBit 7) || (false && T.testBit 0)) && true) = (false || false || T.testBit 7 || T.testBit 2)
    generalize T.testBit 0 = p0
    generalize T.testBit 2 = p2
    generalize T.testBit 4 = p4
    generalize T.testBit 7 = p7
    revert p0 p2 p4 p7
    decide
  | 4, _ =>
    show (((((T.testBit 5 && true) || (true && (T.testBit 3 && false))) || T.testBit 8) || (true && T.testBit 0)) && true) = (T.testBit 0 || T.testBit 5 || T.testBit 8 || false)
    generalize T.testBit 0 = p0
    generalize T.testBit 3 = p3
    generalize T.testBit 5 = p5
    generalize T.testBit 8 = p8
    revert p0 p3 p5 p8
    decide
  | 5, _ =>
    show (((((T.testBit 6 && true) || (true && (T.testBit 4 && true))) || T.testBit 9) || (true && T.testBit 1)) && true) = (T.testBit 1 || T.testBit 6 || T.testBit 9 || T.testBit 4)
    generalize T.testBit 1 = p1
    generalize T.testBit 4 = p4
    generalize T.testBit 6 = p6
    generalize T.testBit 9 = p9
    revert p1 p4 p6 p9
    decide
  | 6, _ =>
    show (((((T.testBit 7 && true) || (true && (T.testBit 5 && true))) || T.testBit 10) || (true && T.testBit 2)) && true) = (T.testBit 2 || T.testBit 7 || T.testBit 10 || T.testBit 5)
    generalize T.testBit 2 = p2
    generalize T.testBit 5 = p5
    generalize T.testBit 7 = p7
    generalize T.testBit 10 = p10
    revert p2 p5 p7 p10
    decide
  | 7, _ =>
    show (((((T.testBit 8 && false) || (true && (T.testBit 6 && true))) || T.testBit 11) || (true && T.testBit 3)) && true) = (T.testBit 3 || false || T.testBit 11 || T.testBit 6)
    generalize T.testBit 3 = p3
    generalize T.testBit 6 = p6
    generalize T.testBit 8 = p8
    generalize T.testBit 11 = p11
    revert p3 p6 p8 p11
    decide
  | 8, _ =>
    show (((((T.testBit 9 && true) || (true && (T.testBit 7 && false))) || T.testBit 12) || (true && T.testBit 4)) && true) = (T.testBit 4 || T.testBit 9 || T.testBit 12 || false)
    generalize T.testBit 4 = p4
    generalize T.testBit 7 = p7
    generalize T.testBit 9 = p9
    generalize T.testBit 12 = p12
    revert p4 p7 p9 p12
    decide
  | 9, _ =>
    show (((((T.testBit 10 && true) || (true && (T.testBit 8 && true))) || T.testBit 13) || (true && T.testBit 5)) && true) = (T.testBit 5 || T.testBit 10 || T.testBit 13 || T.testBit 8)
    generalize T.testBit 5 = p5
    generalize T.testBit 8 = p8
    generalize T.testBit 10 = p10
    generalize T.testBit 13 = p13
    revert p5 p8 p10 p13
    decide
  | 10, _ =>
    show (((((T.testBit 11 && true) || (true && (T.testBit 9 && true))) || T.testBit 14) || (true && T.testBit 6)) && true) = (T.testBit 6 || T.testBit 11 || T.testBit 14 || T.testBit 9)
    generalize T.testBit 6 = p6
    generalize T.testBit 9 = p9
    generalize T.testBit 11 = p11
    generalize T.testBit 14 = p14
    revert p6 p9 p11 p14
    decide
  | 11, _ =>
    show (((((T.testBit 12 && false) || (true && (T.testBit 10 && true))) || T.testBit 15) || (true && T.testBit 7)) && true) = (T.testBit 7 || false || T.testBit 15 || T.testBit 10)
    generalize T.testBit 7 = p7
    generalize T.testBit 10 = p10
    generalize T.testBit 12 = p12
    generalize T.testBit 15 = p15
    revert p7 p10 p12 p15
    decide
  | 12, _ =>
    rw [show T.testBit (4 + 12) = false from hi _ (by decide)]
    show (((((T.testBit 13 && true) || (true && (T.testBit 11 && false))) || false) || (true && T.testBit 8)) && true) = (T.testBit 8 || T.testBit 13 || false || false)
    generalize T.testBit 8 = p8
    generalize T.testBit 11 = p11
    generalize T.testBit 13 = p13
    revert p8 p11 p13
    decide
  | 13, _ =>
    rw [show T.testBit (4 + 13) = false from hi _ (by decide)]
    show (((((T.testBit 14 && true) || (true && (T.testBit 12 && true))) || false) || (true && T.testBit 9)) && true) = (T.testBit 9 || T.testBit 14 || false || T.testBit 12)
    generalize T.testBit 9 = p9
    generalize T.testBit 12 = p12
    generalize T.testBit 14 = p14
    revert p9 p12 p14
    decide
  | 14, _ =>
    rw [show T.testBit (4 + 14) = false from hi _ (by decide)]
    show (((((T.testBit 15 && true) || (true && (T.testBit 13 && true))) || false) || (true && T.testBit 10)) && true) = (T.testBit 10 || T.testBit 15 || false || T.testBit 13)
    generalize T.testBit 10 = p10
    generalize T.testBit 13 = p13
    generalize T.testBit 15 = p15
    revert p10 p13 p15
    decide
  | 15, _ =>
    rw [show T.testBit (4 + 15) = false from hi _ (by decide)]
    rw [show T.testBit (1 + 15) = false from hi _ (by decide)]
    show (((((false && false) || (true && (T.testBit 14 && true))) || false) || (true && T.testBit 11)) && true) = (T.testBit 11 || false || false || T.testBit 14)
    generalize T.testBit 11 = p11
    generalize T.testBit 14 = p14
    revert p11 p14
    decide
  | k + 16, h => exact absurd h (by omega)
theorem mayGo6 {S : Bun} {J : Lon} {t f c d k : Nat} {b : Option Nat} {tu near : Bool} (ht : t < 6) (hk : k < 6) (ek : S 1 (44 + 2 * t) = nI k) (hb : dOk b) (hd : d < 4) (hn : k = 4 → ∀ post : Int32 → Prop, post (bI near) → wX6_isByTree S J (nI f) (nI c) post) {post : Int32 → Prop} (h : post (bI (mayN k near b d tu))) : wX6_mayGo S J (nI t) (nI f) (nI c) (gI b) (nI d) (bI tu) post := by
  unfold wX6_mayGo
  refine turnj hb hd ?_
  intro x5 hx5
  refine kindOf6 ht ?_
  rintro _ rfl
  rw [ek]
  have e5 : turnN b d = true → x5 = nI (byN b d) := by
    intro hT
    cases b with
    | none => exact absurd hT Bool.false_ne_true
    | some x =>
      have hx := hb x rfl
      rw [hx5]
      exact (show ∀ d, d < 4 → ∀ x, x < 4 → ((nI d - nI x) + 4) - ((nI d - nI x) + 4) / 4 * 4 = nI ((d + 4 - x) % 4) by decide +kernel) d hd x hx
  have hm := by_lt b d
  have q1 : nI (byN b d) = (1 : Int32) ↔ byN b d = 1 := nI_eq (b := 1) (by omega) (by decide)
  have q3 : nI (byN b d) = (3 : Int32) ↔ byN b d = 3 := nI_eq (b := 3) (by omega) (by decide)
  unfold mayN at h
  generalize turnN b d = T at h e5
  generalize byN b d = m at h e5 hm q1 q3
  clear hx5
  match k, hk, h, hn with
  | 0, _, h, _ =>
    have e : ∀ near T t : Bool, ∀ m, m < 4 → mayB 0 near T m t = true := by decide
    rw [e _ _ _ _ hm] at h
    exact ⟨fun e => absurd e (by decide), fun e => absurd e (by decide), fun e => absurd e (by decide), fun e => absurd e (by decide), fun e => absurd e (by decide), fun _ => h⟩
  | 1, _, h, _ =>
    refine ⟨fun _ => br_b (fun hT => ?_) (fun hT => ?_), fun e => absurd e (by decide), fun e => absurd e (by decide), fun e => absurd e (by decide), fun e => absurd e (by decide), fun e => absurd e (by decide)⟩
    · have e : ∀ near t : Bool, ∀ m, m < 4 → mayB 1 near false m t = true := by decide
      rw [hT, e _ _ _ hm] at h; exact h
    · rw [e5 hT, q1]
      rw [hT] at h
      refine ⟨fun z => ?_, fun z => ?_⟩
      · have e : ∀ near t : Bool, mayB 1 near true 1 t = false := by decide
        rw [z, e] at h; exact h
      · have e : ∀ near t : Bool, ∀ m, m < 4 → m ≠ 1 → mayB 1 near true m t = true := by decide
        rw [e _ _ _ hm z] at h; exact h
  | 2, _, h, _ =>
    refine ⟨fun e => absurd e (by decide), fun _ => br_b (fun hT => ?_) (fun hT => ?_), fun e => absurd e (by decide), fun e => absurd e (by decide), fun e => absurd e (by decide), fun e => absurd e (by decide)⟩
    · have e : ∀ near t : Bool, ∀ m, m < 4 → mayB 2 near false m t = true := by decide
      rw [hT, e _ _ _ hm] at h; exact h
    · rw [e5 hT, q3]
      rw [hT] at h
      refine ⟨fun z => ?_, fun z => ?_⟩
      · have e : ∀ near t : Bool, mayB 2 near true 3 t = false := by decide
        rw [z, e] at h; exact h
      · have e : ∀ near t : Bool, ∀ m, m < 4 → m ≠ 3 → mayB 2 near true m t = true := by decide
        rw [e _ _ _ hm z] at h; exact h
  | 3, _, h, _ =>
    refine ⟨fun e => absurd e (by decide), fun e => absurd e (by decide), fun _ => br_b (fun hT => ?_) (fun hT => br_b (fun ht => ?_) (fun ht => ?_)), fun e => absurd e (by decide), fun e => absurd e (by decide), fun e => absurd e (by decide)⟩
    · have e : ∀ near t : Bool, ∀ m, m < 4 → mayB 3 near false m t = true := by decide
      rw [hT, e _ _ _ hm] at h; exact h
    · have e : ∀ near : Bool, ∀ m, m < 4 → mayB 3 near true m false = true := by decide
      rw [hT, ht, e _ _ hm] at h; exact h
    · have e : ∀ near : Bool, ∀ m, m < 4 → mayB 3 near true m true = false := by decide
      rw [hT, ht, e _ _ hm] at h; exact h
  | 4, _, h, hn =>
    refine ⟨fun e => absurd e (by decide), fun e => absurd e (by decide), fun e => absurd e (by decide), fun _ => wj ?_, fun e => absurd e (by decide), fun e => absurd e (by decide)⟩
    have fin : (T = true → m ≠ 1) → wX6_isByTree S J (nI f) (nI c) (fun r19 => ((r19 = 0 → post (1 : Int32)) ∧ (¬ (r19 = 0) → post (0 : Int32)))) := by
      intro hq
      refine hn rfl _ (br_b (fun hz => ?_) (fun hz => ?_))
      · have e : ∀ T t : Bool, ∀ m, m < 4 → (T = true → m ≠ 1) → mayB 4 false T m t = true := by decide
        rw [hz, e _ _ _ hm hq] at h; exact h
      · have e : ∀ T t : Bool, ∀ m, m < 4 → mayB 4 true T m t = false := by decide
        rw [hz, e _ _ _ hm] at h; exact h
    refine br_b (fun hT => fin (fun q => absurd (hT.symm.trans q) (by decide))) (fun hT => ?_)
    rw [e5 hT, q1]
    refine ⟨fun z => ?_, fun z => fin (fun _ => z)⟩
    have e : ∀ near t : Bool, mayB 4 near true 1 t = false := by decide
    rw [hT, z, e] at h; exact h
  | 5, _, h, _ =>
    refine ⟨fun e => absurd e (by decide), fun e => absurd e (by decide), fun e => absurd e (by decide), fun e => absurd e (by decide), fun _ => br_b (fun hT => ?_) (fun hT => br_b (fun ht => ?_) (fun ht => ?_)), fun e => absurd e (by decide)⟩
    · have e : ∀ near t : Bool, ∀ m, m < 4 → mayB 5 near false m t = true := by decide
      rw [hT, e _ _ _ hm] at h; exact h
    · have e : ∀ near : Bool, ∀ m, m < 4 → mayB 5 near true m false = true := by decide
      rw [hT, ht, e _ _ hm] at h; exact h
    · have e : ∀ near : Bool, ∀ m, m < 4 → mayB 5 near true m true = false := by decide
      rw [hT, ht, e _ _ hm] at h; exact h
end
