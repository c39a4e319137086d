/-! the answer of a question; ask and longest -/
section
variable {K B E : Nat} {i o : Option Nat}
def lngN (K B E : Nat) (i o : Option Nat) : Nat := mxo o 0 (allN K B E i o)
theorem all_mem {m : Nod} (hE : E < 65536) (h : m ∈ allN K B E i o) : m.2.2 < m.1 ∧ m.1 ≤ cdN E ∧ m.1 ≤ 2 * min (colA E 16) (colB E 16) + 1 := by
  obtain ⟨s, hs, hm⟩ := mem_cat h
  cases hok : stOk E i o s with
  | false => rw [stN_f hok] at hm; cases hm
  | true =>
    rw [stN_t hok] at hm
    have hbit := stOk_bit hok
    have cd := del_cd hE hs hbit
    have ea := del_A hE hs hbit
    have eb := del_B hE hs hbit
    have h1 := nds_tu 17 1 (fun _ => s) (delN E s) s none false 0 (del_lt hE) (by decide) m hm
    obtain ⟨a, e, c1, c2, c3, c4, c5⟩ := nds_col 17 1 (fun _ => s) (delN E s) s none false 0 (del_lt hE) hs (Nat.le_refl 1) rfl m hm
    refine ⟨h1.1, by omega, ?_⟩
    cases hv : evB s with
    | true =>
      rw [hv] at ea eb
      have ea' : colA (delN E s) 16 + 1 = colA E 16 := ea
      have eb' : colB (delN E s) 16 + 0 = colB E 16 := eb
      rcases c4 hv with ⟨q, _⟩ | ⟨q, _⟩ <;> omega
    | false =>
      rw [hv] at ea eb
      have ea' : colA (delN E s) 16 + 0 = colA E 16 := ea
      have eb' : colB (delN E s) 16 + 1 = colB E 16 := eb
      rcases c5 hv with ⟨q, _⟩ | ⟨q, _⟩ <;> omega
theorem wh_mem {m : Nod} : m ∈ whN K B E i o ↔ m ∈ allN K B E i o ∧ m.1 = cdN E ∧ okO o m = true := by
  unfold whN
  rw [List.mem_filter]
  unfold whl
  rw [Bool.and_eq_true, beq_iff_eq]
theorem lng_le (hE : E < 65536) : lngN K B E i o ≤ cdN E := mxo_bd (fun m hm _ => (all_mem hE hm).2.1) (Nat.zero_le _)
theorem lng_wh (hE : E < 65536) (h : whN K B E i o ≠ []) : lngN K B E i o = cdN E := by
  obtain ⟨m, hm⟩ := bst_some h
  have hm := wh_mem.mp (bst_mem hm)
  have := mxo_in (o := o) (g := 0) hm.1 hm.2.2
  have l := lng_le (K := K) (B := B) (i := i) (o := o) hE
  unfold lngN at l ⊢
  omega
def Ans (K E B : Nat) (i o : Option Nat) (S : Bun) : Prop := S 0 0 = nI K ∧ S 0 1 = nI E ∧ S 0 2 = nI B ∧ S 0 3 = gI i ∧ S 0 4 = gI o ∧ S 0 5 = nI (cdN E) ∧ Rp (whN K B E i o) S ∧ (S 0 11 = -1 ∨ S 0 11 = nI (lngN K B E i o))
def Qok (K E B : Nat) (i o : Option Nat) : Prop := K < 6 ∧ E < 65536 ∧ B < 65536 ∧ gOk i ∧ gOk o
def FIs (S : Bun) : Prop := S 0 0 = -1 ∨ ∃ K E B i o, Qok K E B i o ∧ Ans K E B i o S
theorem gI_inj {i j : Option Nat} (hi : gOk i) (hj : gOk j) (h : gI i = gI j) : i = j := by
  cases i with
  | none =>
    cases j with
    | none => rfl
    | some y =>
      have := hj y rfl
      have e : gI (some y) = gI none := h.symm
      exact absurd (show gI (some y) < 0 by rw [e]; decide) (nI_pos (by omega))
  | some x =>
    have := hi x rfl
    cases j with
    | none => exact absurd (show gI (some x) < 0 by rw [h]; decide) (nI_pos (by omega))
    | some y =>
      have := hj y rfl
      exact congrArg some ((nI_eq (by omega) (by omega)).mp h)
/-- cells beside trees -/
def cbN (T : Nat) : Nat := (cbI (nI T)).toNatClampNeg
theorem cbN_ok (T : Nat) : cbI (nI T) = nI (cbN T) ∧ cbN T < 65536 := by
  have r : 0 ≤ (cbI (nI T)).toInt ∧ (cbI (nI T)).toInt ≤ 65535 := by
    rw [rng16]
    intro k h1 h2
    unfold cbI
    rw [b_and, b_65535, decide_eq_false (by omega), Bool.and_false]
  obtain ⟨j, hj, e⟩ := of_toInt (n := 65536) r.1 (by omega) (by decide)
  have : cbN T = j := by unfold cbN; rw [e, tn_nI (by omega)]
  rw [this]
  exact ⟨e, hj⟩
theorem cbN_bit {T c : Nat} (hT : T < 65536) (hc : c < 16) : (cbN T).testBit c = nearN T c := by
  rw [← cb_bit hT hc, (cbN_ok T).1, bt_nI (by omega)]
def bsN (K T : Nat) : Nat := if K = 4 then cbN T else 0
theorem bsN_lt (K T : Nat) : bsN K T < 65536 := by
  unfold bsN
  split
  · exact (cbN_ok T).2
  · decide
theorem cd_pc {E : Nat} (hE : E < 65536) : pcN E = cdN E := pc_ct hE
theorem ask5 {S : Bun} (hF : FIs S) {T : Nat} (hK : K < 6) (hE : E < 65536) (gi : gOk i) (go : gOk o) {post : Bun → Prop} (h : ∀ S' : Bun, FIs S' → Ans K E (bsN K T) i o S' → post S') : wX0_ask S (nI K) (nI E) (nI T) (gI i) (gI o) post := by
  unfold wX0_ask
  have ASK : ∀ S14 : Bun, S14 = up S 0 0 (nI K) → ∀ S15 : Bun, S15 = up S14 0 1 (nI E) → ∀ S16 : Bun, S16 = up S15 0 2 (nI (bsN K T)) → ∀ S17 : Bun, S17 = up S16 0 3 (gI i) → ∀ S18 : Bun, S18 = up S17 0 4 (gI o) → wJ6_bitCount_0f7a4 (S18 0 1) (fun r19 => ∀ S21 : Bun, S21 = up S18 0 5 r19 → ∀ S22 : Bun, S22 = up S21 0 11 (-1 : Int32) → wX0_searchWhole S22 (fun S25 => post S25)) := by
    rintro _ rfl _ rfl _ rfl _ rfl _ rfl
    have q1 : up (up (up (up (up S 0 0 (nI K)) 0 1 (nI E)) 0 2 (nI (bsN K T))) 0 3 (gI i)) 0 4 (gI o) 0 1 = nI E := by
      rw [up_ki (by decide), up_ki (by decide), up_ki (by decide), up_ss]
    rw [q1]
    refine bitCount_n hE ?_
    rw [cd_pc hE]
    rintro _ rfl _ rfl
    refine searchWhole5 (K := K) (B := bsN K T) (E := E) (i := i) (o := o) hK hE gi go ?_ ?_ ?_ ?_ ?_ (fun S' u1 u2 => ?_)
    · rw [up_ki (by decide), up_ki (by decide), up_ki (by decide), up_ki (by decide), up_ki (by decide), up_ki (by decide), up_ss]
    · rw [up_ki (by decide), up_ki (by decide)]; exact q1
    · rw [up_ki (by decide), up_ki (by decide), up_ki (by decide), up_ki (by decide), up_ss]
    · rw [up_ki (by decide), up_ki (by decide), up_ki (by decide), up_ss]
    · rw [up_ki (by decide), up_ki (by decide), up_ss]
    · have A : Ans K E (bsN K T) i o S' := by
        refine ⟨?_, ?_, ?_, ?_, ?_, ?_, u2, Or.inl ?_⟩
        · rw [u1 0 (by decide) (by decide), up_ki (by decide), up_ki (by decide), up_ki (by decide), up_ki (by decide), up_ki (by decide), up_ki (by decide), up_ss]
        · rw [u1 1 (by decide) (by decide), up_ki (by decide), up_ki (by decide)]; exact q1
        · rw [u1 2 (by decide) (by decide), up_ki (by decide), up_ki (by decide), up_ki (by decide), up_ki (by decide), up_ss]
        · rw [u1 3 (by decide) (by decide), up_ki (by decide), up_ki (by decide), up_ki (by decide), up_ss]
        · rw [u1 4 (by decide) (by decide), up_ki (by decide), up_ki (by decide), up_ss]
        · rw [u1 5 (by decide) (by decide), up_ki (by decide), up_ss]
        · rw [u1 11 (by decide) (by decide), up_ss]
      exact h S' (Or.inr ⟨K, E, bsN K T, i, o, ⟨hK, hE, bsN_lt K T, gi, go⟩, A⟩) A
  refine isOf5 (w := 4) hK (by decide) ?_
  have main : ∀ y3 : Int32, y3 = nI (bsN K T) → wjoin (σ := Int32) (fun y7 => wjoin (σ := Unit) (fun _ => ∀ S14 : Bun, S14 = up S 0 0 (nI K) → ∀ S15 : Bun, S15 = up S14 0 1 (nI E) → ∀ S16 : Bun, S16 = up S15 0 2 y3 → ∀ S17 : Bun, S17 = up S16 0 3 (gI i) → ∀ S18 : Bun, S18 = up S17 0 4 (gI o) → wJ6_bitCount_0f7a4 (S18 0 1) (fun r19 => ∀ S21 : Bun, S21 = up S18 0 5 r19 → ∀ S22 : Bun, S22 = up S21 0 11 (-1 : Int32) → wX0_searchWhole S22 (fun S25 => post S25))) (fun J11 => ((nI K = (S 0 0) → ((y7 = 0 → J11 ()) ∧ (¬ (y7 = 0) → post S))) ∧ (¬ (nI K = (S 0 0)) → J11 ())))) (fun J8 => ((nI E = (S 0 1) → ((y3 = (S 0 2) → ((gI i = (S 0 3) → ((gI o = (S 0 4) → J8 (1 : Int32)) ∧ (¬ (gI o = (S 0 4)) → J8 (0 : Int32)))) ∧ (¬ (gI i = (S 0 3)) → J8 (0 : Int32)))) ∧ (¬ (y3 = (S 0 2)) → J8 (0 : Int32)))) ∧ (¬ (nI E = (S 0 1)) → J8 (0 : Int32)))) := by
    rintro _ rfl
    have no : wjoin (σ := Unit) (fun _ => ∀ S14 : Bun, S14 = up S 0 0 (nI K) → ∀ S15 : Bun, S15 = up S14 0 1 (nI E) → ∀ S16 : Bun, S16 = up S15 0 2 (nI (bsN K T)) → ∀ S17 : Bun, S17 = up S16 0 3 (gI i) → ∀ S18 : Bun, S18 = up S17 0 4 (gI o) → wJ6_bitCount_0f7a4 (S18 0 1) (fun r19 => ∀ S21 : Bun, S21 = up S18 0 5 r19 → ∀ S22 : Bun, S22 = up S21 0 11 (-1 : Int32) → wX0_searchWhole S22 (fun S25 => post S25))) (fun J11 => ((nI K = (S 0 0) → (((0 : Int32) = 0 → J11 ()) ∧ (¬ ((0 : Int32) = 0) → post S))) ∧ (¬ (nI K = (S 0 0)) → J11 ()))) := wj ⟨fun _ => br_t rfl ASK, fun _ => ASK⟩
    refine wj ⟨fun a1 => ⟨fun a2 => ⟨fun a3 => ⟨fun a4 => wj ⟨fun a0 => br_f (by decide) ?_, fun _ => ASK⟩, fun _ => no⟩, fun _ => no⟩, fun _ => no⟩, fun _ => no⟩
    rcases hF with hF | ⟨K', E', B', i', o', ⟨k1, k2, k3, k4, k5⟩, A⟩
    · rw [hF] at a0
      exact absurd (show nI K < 0 by rw [a0]; decide) (nI_pos (by omega))
    · have A' := A
      obtain ⟨b0, b1, b2, b3, b4, _⟩ := A'
      have hb := bsN_lt K T
      obtain rfl : K = K' := (nI_eq (by omega) (by omega)).mp (a0.trans b0)
      obtain rfl : E = E' := (nI_eq (by omega) (by omega)).mp (a1.trans b1)
      obtain rfl : bsN K T = B' := (nI_eq (by omega) (by omega)).mp (a2.trans b2)
      obtain rfl : i = i' := gI_inj gi k4 (a3.trans b3)
      obtain rfl : o = o' := gI_inj go k5 (a4.trans b4)
      exact h S (Or.inr ⟨K, E, bsN K T, i, o, ⟨k1, k2, k3, k4, k5⟩, A⟩) A
  refine wj (br_b (fun q => main 0 ?_) (fun q => cellsBeside5 (main _ ?_)))
  · have : K ≠ 4 := fun z => by rw [z] at q; exact absurd q (by decide)
    unfold bsN; rw [if_neg this]; rfl
  · have : K = 4 := (show ∀ K, K < 6 → okKB K 4 = true → K = 4 by decide) K hK q
    unfold bsN; rw [if_pos this]; exact (cbN_ok T).1
theorem searchLongest5 {S : Bun} (hQ : Qok K E B i o) (hA : Ans K E B i o S) {post : Bun → Prop} (h : ∀ S' : Bun, FIs S' → Ans K E B i o S' → S' 0 11 = nI (lngN K B E i o) → post S') : wX0_searchLongest S post := by
  obtain ⟨hK, hE, hB, gi, go⟩ := hQ
  obtain ⟨a0, a1, a2, a3, a4, a5, aR, _⟩ := hA
  have fin : ∀ S' : Bun, (∀ k, k ≠ 11 → k ≠ 12 → S' 0 k = S 0 k) → (∀ r, r ≠ 0 → S' r = S r) → S' 0 11 = nI (lngN K B E i o) → post S' := by
    intro S' u1 u2 u3
    have A : Ans K E B i o S' := by
      refine ⟨by rw [u1 0 (by decide) (by decide)]; exact a0, by rw [u1 1 (by decide) (by decide)]; exact a1, by rw [u1 2 (by decide) (by decide)]; exact a2, by rw [u1 3 (by decide) (by decide)]; exact a3, by rw [u1 4 (by decide) (by decide)]; exact a4, by rw [u1 5 (by decide) (by decide)]; exact a5, ?_, Or.inr u3⟩
      unfold Rp
      rw [u1 6 (by decide) (by decide), u1 7 (by decide) (by decide), u2 9 (by decide), u2 10 (by decide), u2 11 (by decide)]
      exact aR
    exact h S' (Or.inr ⟨K, E, B, i, o, ⟨hK, hE, hB, gi, go⟩, A⟩) A u3
  have c16 := cd_le E
  have hlen := whN_len (K := K) (B := B) (i := i) (o := o) hE
  unfold wX0_searchLongest
  rw [aR.2.1]
  refine ⟨fun z => ?_, fun z => ?_⟩
  · have w0 : whN K B E i o = [] := by
      have : (whN K B E i o).length ≤ 0 := (nI_leI (b := 0) hlen (by decide)).mp z
      exact List.length_eq_zero_iff.mp (by omega)
    rintro _ rfl
    rw [up_ki (by decide), up_ki (by decide), a1, a5, fa_lit 42405, fa_and]
    have ha : E &&& 42405 < 65536 := Nat.lt_of_le_of_lt Nat.and_le_left hE
    refine bitCount_n ha ?_
    have ea : pcN (E &&& 42405) = colA E 16 := by
      rw [pc_ct ha]
      exact fb_ct_cong (fun k _ => Nat.testBit_and _ _ _)
    rw [ea]
    have ab := cd_AB E
    have eB : nI (cdN E) - nI (colA E 16) = nI (colB E 16) := by
      rw [fa_eq, pk_sub_toInt (by omega) (by omega), nI_toInt (by omega)]; omega
    have eM : (if nI (colB E 16) < nI (colA E 16) then nI (colB E 16) else nI (colA E 16)) = nI (min (colA E 16) (colB E 16)) := by
      by_cases q : colB E 16 < colA E 16
      · rw [if_pos (nI_lt q (by omega)), Nat.min_eq_right (by omega)]
      · rw [if_neg (nI_nlt (by omega) (by omega)), Nat.min_eq_left (by omega)]
    have e2 : (2 : Int32) * nI (min (colA E 16) (colB E 16)) + 1 = nI (2 * min (colA E 16) (colB E 16) + 1) := by
      rw [fa_lit 2, pk_mul]; exact nI_1 _
    rw [eB, eM, e2]
    have t1 : (nI (2 * min (colA E 16) (colB E 16) + 1)).toInt = ((2 * min (colA E 16) (colB E 16) + 1 : Nat) : Int) := nI_toInt (by omega)
    have t2 : (nI (cdN E) - 1).toInt = (cdN E : Int) - 1 := pk_sub_toInt (b := 1) (by omega) (by decide)
    have hbd : ∀ m ∈ allN K B E i o, okO o m = true → (m.1 : Int) ≤ (if nI (2 * min (colA E 16) (colB E 16) + 1) < nI (cdN E) - 1 then nI (2 * min (colA E 16) (colB E 16) + 1) else nI (cdN E) - 1).toInt := by
      intro m hm hok
      obtain ⟨_, l1, l2⟩ := all_mem hE hm
      have l3 : m.1 ≠ cdN E := fun e => by
        have := wh_mem.mpr ⟨hm, e, hok⟩
        rw [w0] at this
        cases this
      split
      · rw [t1]; omega
      · rw [t2]; omega
    generalize (if nI (2 * min (colA E 16) (colB E 16) + 1) < nI (cdN E) - 1 then nI (2 * min (colA E 16) (colB E 16) + 1) else nI (cdN E) - 1) = bnd at hbd
    rintro _ rfl
    refine wl_up2 (fun j x S6 => x = nI j ∧ (∀ k, k ≠ 11 → k ≠ 12 → S6 0 k = S 0 k) ∧ (∀ r, r ≠ 0 → S6 r = S r) ∧ S6 0 12 = bnd ∧ S6 0 11 = nI (mxo o 0 (catTo (stN K B E i o) j))) 16 ?_ (i := 0) (by decide) ⟨rfl, fun k k1 k2 => by rw [up_ki k2, up_ki k1], fun r hr => by rw [up_k hr, up_k hr], up_ss, by rw [up_ki (by decide), up_ss]; rfl⟩
    rintro j x S6 KK hj ⟨rfl, k1, k2, k3, k4⟩ hKK
    refine ⟨fun h4 => ?_, fun h4 => ?_⟩
    · have := (nI_leI (a := 16) (by decide) (by omega)).mp h4
      obtain rfl : j = 16 := by omega
      exact fin S6 k1 k2 k4
    · have hlt : j < 16 := by
        rcases Nat.lt_or_ge j 16 with h' | h'
        · exact h'
        · exact absurd (nI_le (a := 16) h' (by omega)) h4
      have t0 := (k1 0 (by decide) (by decide)).trans a0
      have t1 := (k1 1 (by decide) (by decide)).trans a1
      have t2 := (k1 2 (by decide) (by decide)).trans a2
      have t3 := (k1 3 (by decide) (by decide)).trans a3
      have t4 := (k1 4 (by decide) (by decide)).trans a4
      refine mayBegin5 hlt gi go t1 t3 t4 (br_b (fun hs => ?_) (fun hs => ?_))
      · rintro _ rfl
        refine hKK _ _ hlt ⟨nI_1 j, k1, k2, k3, ?_⟩
        show S6 0 11 = nI (mxo o 0 (catTo (stN K B E i o) j ++ stN K B E i o j))
        rw [stN_f hs, List.append_nil]; exact k4
      · have hbit := stOk_bit hs
        have cd := del_cd hE hlt hbit
        have es := stN_t (K := K) (B := B) hs
        have sub : ∀ m ∈ catTo (stN K B E i o) j, m ∈ allN K B E i o := fun m hm => by
          obtain ⟨s, hs, hm⟩ := mem_cat hm
          exact cat_mem (by omega) hm
        rw [t1, del_I hE hlt]
        refine stretch5 (K := K) (B := B) (o := o) hK go c16 bnd.toInt 17 1 (fun _ => j) (delN E j) j none false 0 S6 (mxo o 0 (catTo (stN K B E i o) j)) _ rfl (Nat.le_refl 1) (by decide) (del_lt hE) hlt (fun x hx => by cases hx) (by omega) rfl (by rw [del_bit hE, if_pos rfl]) (by decide) t0 t2 t4 k4 (mxo_bd (fun m hm _ => by have := (all_mem hE (sub m hm)).2.1; omega) (by omega)) (by rw [k3]) (fun m hm hok => hbd m (cat_mem hlt (by rw [es]; exact hm)) hok) ?_
        rintro S' u1 u2 u3 _ rfl
        refine hKK _ _ hlt ⟨nI_1 j, fun k q1 q2 => by rw [u1 k q1, k1 k q1 q2], fun r hr => by rw [u2 r hr, k2 r hr], by rw [u1 12 (by decide)]; exact k3, ?_⟩
        show S' 0 11 = nI (mxo o 0 (catTo (stN K B E i o) j ++ stN K B E i o j))
        rw [mxo_app, es]; exact u3
  · rintro _ rfl
    refine fin _ (fun k k1 k2 => by rw [up_ki k1]) (fun r hr => by rw [up_k hr]) ?_
    rw [up_ss, a5, lng_wh hE (fun q => z (by rw [q]; decide))]
theorem longest5 {S : Bun} (hQ : Qok K E B i o) (hF : FIs S) (hA : Ans K E B i o S) {post : Int32 → Bun → Prop} (h : ∀ S' : Bun, FIs S' → Ans K E B i o S' → post (nI (lngN K B E i o)) S') : wX0_longest S post := by
  unfold wX0_longest
  have c16 := cd_le E
  have ll := lng_le (K := K) (B := B) (i := i) (o := o) hQ.2.1
  refine wj ⟨fun z => searchLongest5 hQ hA (fun S' u1 u2 u3 => by show post (S' 0 11) S'; rw [u3]; exact h S' u1 u2), fun z => ?_⟩
  have := hA.2.2.2.2.2.2.2
  rcases this with q | q
  · exact absurd q z
  · show post (S 0 11) S
    rw [q]; exact h S hF hA
end
