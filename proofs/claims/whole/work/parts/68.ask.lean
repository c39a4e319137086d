/-! a question and its answer: searchWhole -/
section
variable {K B E : Nat} {i o : Option Nat}
def inB (i : Option Nat) (s : Nat) : Bool := match i with
  | none => true
  | some g => g == s
def outB (E : Nat) (o : Option Nat) : Bool := match o with
  | none => true
  | some g => E.testBit g
def stOk (E : Nat) (i o : Option Nat) (s : Nat) : Bool := E.testBit s && inB i s && outB E o
def stN (K B E : Nat) (i o : Option Nat) (s : Nat) : List Nod := if stOk E i o s then nds K B 17 1 (fun _ => s) (delN E s) s none false 0 else []
def whS (K B E : Nat) (i o : Option Nat) (s : Nat) : List Nod := (stN K B E i o s).filter (whl (cdN E) o)
def allN (K B E : Nat) (i o : Option Nat) : List Nod := catTo (stN K B E i o) 16
def whN (K B E : Nat) (i o : Option Nat) : List Nod := (allN K B E i o).filter (whl (cdN E) o)
theorem whN_cat : whN K B E i o = catTo (whS K B E i o) 16 := cat_filter _ _
theorem stN_f {s : Nat} (h : stOk E i o s = false) : stN K B E i o s = [] := by
  unfold stN; rw [h]; rfl
theorem stN_t {s : Nat} (h : stOk E i o s = true) : stN K B E i o s = nds K B 17 1 (fun _ => s) (delN E s) s none false 0 := by
  unfold stN; rw [h]; rfl
theorem stOk_bit {s : Nat} (h : stOk E i o s = true) : E.testBit s = true := by
  unfold stOk at h
  rw [Bool.and_eq_true, Bool.and_eq_true] at h
  exact h.1.1
theorem mayBegin5 {S : Bun} {s : Nat} (hs : s < 16) (gi : gOk i) (go : gOk o) (e1 : S 0 1 = nI E) (e3 : S 0 3 = gI i) (e4 : S 0 4 = gI o) {post : Int32 → Prop} (h : post (bI (stOk E i o s))) : wX0_mayBegin S (nI s) post := by
  unfold wX0_mayBegin
  have rest : wX5_holds (nI E) (nI s) (fun r5 => ((r5 = 0 → post (0 : Int32)) ∧ (¬ (r5 = 0) → wjoin (σ := Unit) (fun _ => ((bI (outB E o) = 0 → post (0 : Int32)) ∧ (¬ (bI (outB E o) = 0) → post (1 : Int32)))) (fun J7 => ((gI i < 0 → J7 ()) ∧ (¬ (gI i < 0) → ((gI i = nI s → J7 ()) ∧ (¬ (gI i = nI s) → post (0 : Int32))))))))) := by
    unfold stOk at h
    refine holds_b (by omega) (fun q => br_f (by decide) (wj ?_)) (fun q => br_t rfl ?_)
    · rw [bt_nI (by omega)] at q
      rw [q, Bool.true_and] at h
      have fin : inB i s = true → ((bI (outB E o) = 0 → post (0 : Int32)) ∧ (¬ (bI (outB E o) = 0) → post (1 : Int32))) := by
        intro z
        rw [z, Bool.true_and] at h
        refine br_b (fun y => ?_) (fun y => ?_)
        · rw [y] at h; exact h
        · rw [y] at h; exact h
      cases i with
      | none => exact br_t (by decide) (fin rfl)
      | some g =>
        have hg := gi g rfl
        refine br_f (nI_pos (by omega)) ?_
        rw [show gI (some g) = nI s ↔ g = s from nI_eq (by omega) (by omega)]
        refine ⟨fun z => fin (by show (g == s) = true; rw [z]; exact beq_self_eq_true _), fun z => ?_⟩
        have e : inB (some g) s = false := beq_eq_false_iff_ne.mpr z
        rw [e] at h; exact h
    · rw [bt_nI (by omega)] at q
      rw [q] at h; exact h
  rw [e1, e3, e4]
  refine wj ?_
  cases o with
  | none => exact br_t (by decide) rest
  | some g =>
    have hg := go g rfl
    refine br_f (nI_pos (by omega)) (holds_b (by omega) (fun q => br_f (by decide) ?_) (fun q => br_t rfl ?_))
    · rw [bt_nI (by omega)] at q
      have e : outB E (some g) = true := q
      rw [e] at rest; exact rest
    · rw [bt_nI (by omega)] at q
      have e : outB E (some g) = false := q
      rw [e] at rest; exact rest
theorem fillI {f : Nat → Int32} {v : Int32} {post : (Nat → Int32) → Prop} (h : ∀ f', (∀ k, k < 16 → f' k = v) → post f') : wJ7_fill_53178 f v post := by
  unfold wJ7_fill_53178
  refine wl_up2 (fun i x g => x = nI i ∧ ∀ k, k < i → g k = v) 16 ?_ (i := 0) (by decide) ⟨rfl, fun k hk => absurd hk (by omega)⟩
  rintro i x g K hi ⟨rfl, hg⟩ hK
  refine ⟨fun hc => ?_, fun hc => ?_⟩
  · have := (nI_leI (a := 16) (by decide) (by omega)).mp hc
    exact h g (fun k hk => hg k (by omega))
  · have hlt : i < 16 := by
      rcases Nat.lt_or_ge i 16 with h' | h'
      · exact h'
      · exact absurd (nI_le (a := 16) h' (by omega)) hc
    refine ⟨vp_in_nI hlt (by decide), ?_⟩
    rintro _ rfl _ rfl
    rw [tn_nI (by omega)]
    refine hK _ _ hlt ⟨nI_1 i, fun k hk => ?_⟩
    unfold upd
    by_cases e : k = i
    · rw [if_pos e]
    · rw [if_neg e]; exact hg k (by omega)
theorem barN_le (n : Nat) (i o : Option Nat) : barN n i o ≤ 2 := by
  unfold barN
  split
  · decide
  · split
    · decide
    · split
      · unfold bothG
        split
        · split <;> decide
        · decide
      · split <;> decide
theorem whS_len (hE : E < 65536) {s : Nat} : (whS K B E i o s).length ≤ 19131876 := by
  unfold whS
  cases h : stOk E i o s with
  | false => rw [stN_f h]; exact Nat.zero_le _
  | true =>
    rw [stN_t h]
    have hb := stOk_bit h
    have hs := bit_hi hE hb
    have cd := del_cd hE hs hb
    have := cd_le E
    exact wls_len0 (n := 1) (del_lt hE) hs (by omega) (by rw [del_bit hE, if_pos rfl]) (by omega)
theorem cat_bd {α : Type} {g : Nat → List α} {b : Nat} (h : ∀ i, (g i).length ≤ b) : ∀ n, (catTo g n).length ≤ n * b
  | 0 => Nat.zero_le _
  | n + 1 => by
    show (catTo g n ++ g n).length ≤ (n + 1) * b
    rw [List.length_append, Nat.succ_mul]
    have := cat_bd h n
    have := h n
    omega
theorem whN_len (hE : E < 65536) : (whN K B E i o).length < 2 ^ 31 := by
  rw [whN_cat]
  have := cat_bd (g := whS K B E i o) (b := 19131876) (fun s => whS_len hE) 16
  omega
theorem Rp.row14 {W : List Nod} {S S' : Bun} (h : Rp W S) (h0 : S' 0 = S 0) (h9 : S' 9 = S 9) (h10 : S' 10 = S 10) (h11 : S' 11 = S 11) : Rp W S' := by
  unfold Rp
  rw [h0, h9, h10, h11]; exact h
theorem searchWhole5 {S : Bun} (hK : K < 6) (hE : E < 65536) (gi : gOk i) (go : gOk o) (e0 : S 0 0 = nI K) (e1 : S 0 1 = nI E) (e2 : S 0 2 = nI B) (e3 : S 0 3 = gI i) (e4 : S 0 4 = gI o) {post : Bun → Prop} (h : ∀ S' : Bun, (∀ k, k ≠ 6 → k ≠ 7 → S' 0 k = S 0 k) → Rp (whN K B E i o) S' → post S') : wX0_searchWhole S post := by
  unfold wX0_searchWhole
  rintro _ rfl _ rfl
  refine fillI (fun f hf => ?_)
  rintro _ rfl
  refine fillI (fun f2 hf2 => ?_)
  rintro _ rfl
  refine wl_up2 (fun j x S4 => x = nI j ∧ (∀ k, k ≠ 6 → k ≠ 7 → S4 0 k = S 0 k) ∧ Rp (catTo (whS K B E i o) j) S4) 16 ?_ (i := 0) (by decide) ⟨rfl, fun k k6 k7 => ?_, ?_⟩
  · rintro j x S4 KK hj ⟨rfl, k1, k2⟩ hKK
    refine ⟨fun h4 => ?_, fun h4 => ?_⟩
    · have := (nI_leI (a := 16) (by decide) (by omega)).mp h4
      obtain rfl : j = 16 := by omega
      exact h S4 k1 (by rw [whN_cat]; exact k2)
    · have hlt : j < 16 := by
        rcases Nat.lt_or_ge j 16 with h' | h'
        · exact h'
        · exact absurd (nI_le (a := 16) h' (by omega)) h4
      have t0 := (k1 0 (by decide) (by decide)).trans e0
      have t1 := (k1 1 (by decide) (by decide)).trans e1
      have t2 := (k1 2 (by decide) (by decide)).trans e2
      have t3 := (k1 3 (by decide) (by decide)).trans e3
      have t4 := (k1 4 (by decide) (by decide)).trans e4
      have skip : whS K B E i o j = [] → ∀ x15 : Int32, x15 = nI j + (1 : Int32) → KK (x15, S4) := by
        rintro hx _ rfl
        refine hKK _ _ hlt ⟨nI_1 j, k1, ?_⟩
        show Rp (catTo (whS K B E i o) j ++ whS K B E i o j) S4
        rw [hx, List.append_nil]; exact k2
      refine mayBegin5 hlt gi go t1 t3 t4 (br_b (fun hs => skip (by unfold whS; rw [stN_f hs]; rfl)) (fun hs => ?_))
      have hbit := stOk_bit hs
      have cd := del_cd hE hlt hbit
      have cE := cd_le E
      have ew : whS K B E i o j = wls K B (cdN E) o 17 1 (fun _ => j) (delN E j) j none false 0 := by unfold whS wls; rw [stN_t hs]
      rw [t1, t4, show nI j = gI (some j) from rfl]
      refine bar5 hE (fun g hg => by rw [← Option.some.inj hg]; exact hlt) go ?_
      rw [show nI (barN E (some j) o) = 0 ↔ barN E (some j) o = 0 from nI_eq (b := 0) (by have := barN_le E (some j) o; omega) (by decide)]
      refine ⟨fun hz => ⟨by unfold vp_in; decide, ?_⟩, fun hz => skip ?_⟩
      · rintro _ rfl
        rw [up_k (by decide), t1, show gI (some j) = nI j from rfl, del_I hE hlt]
        refine plough5 (K := K) (B := B) (o := o) hK go cE 17 1 (fun _ => j) (delN E j) j none false 0 _ (catTo (whS K B E i o) j) _ rfl (Nat.le_refl 1) (by decide) (del_lt hE) hlt (fun x hx => by cases hx) (by omega) rfl (by rw [del_bit hE, if_pos rfl]) (fun _ _ => hlt) (by decide) (by rw [up_k (by decide)]; exact t0) (by rw [up_k (by decide)]; exact t2) (by rw [up_k (by decide)]; exact t4) (fun k hk => ?_) (k2.row14 (up_k (by decide)) (up_k (by decide)) (up_k (by decide)) (up_k (by decide))) ?_ ?_
        · obtain rfl : k = 0 := by omega
          exact up_ss
        · rw [← ew, List.length_append]
          have b1 := cat_bd (g := whS K B E i o) (b := 19131876) (fun s => whS_len hE) j
          have b2 := whS_len (K := K) (B := B) (i := i) (o := o) (s := j) hE
          omega
        · rintro S' u1 u2 u3 _ rfl
          refine hKK _ _ hlt ⟨nI_1 j, fun k k6 k7 => ?_, ?_⟩
          · rw [u1 k k6 k7, up_k (by decide), k1 k k6 k7]
          · show Rp (catTo (whS K B E i o) j ++ whS K B E i o j) S'
            rw [ew]; exact u3
      · rw [ew]
        unfold wls
        exact List.filter_eq_nil_iff.mpr (fun m hm => by rw [bar_none hE hbit rfl hz m hm rfl]; decide)
  · rw [up_o (by decide), up_o (by decide), up_ki k7, up_ki k6]
  · refine ⟨(fun m hm => by cases hm), ?_, (fun m hm => by cases hm), fun c hc => ?_, fun c hc => ?_⟩
    · rw [up_o (by decide), up_o (by decide), up_ki (by decide), up_ss]; rfl
    · rw [up_o (by decide), up_s, hf c hc]; rfl
    · rw [up_s, hf2 c hc]; rfl
end
