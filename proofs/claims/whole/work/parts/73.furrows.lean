/-! furrows on both sides, what the best costs -/
section
variable {K T E p t f : Nat} {i o : Option Nat} {S : Bun} {J : Lon} {C : Nat → Bun} {N : Nat → Lon} {FI : Bun → Prop}
theorem isGate6 {w : Nat} {g : Option Nat} (hf : f < 6) (hw : w < 6) (hg : gOk g) (eg : S 1 (2 + (6 * f + w)) = gI g) (hE : earthOf (S 1 (2 + 6 * f)) (S 1 (2 + (6 * f + 1))) = nI E) {post : Int32 → Prop} (h : post (bI (outB E g))) : wX6_isGate S J (nI f) (nI w) post := by
  unfold wX6_isGate
  refine its6 hf hw ?_
  rw [eg]
  cases g with
  | none => exact br_t (by decide) h
  | some q =>
    have hq := hg q rfl
    refine br_f (nI_pos (by omega)) (earth6 hf ?_)
    rw [hE]
    refine its6 hf hw ?_
    rw [eg]
    refine has_b (by omega) (fun y => br_f (by decide) ?_) (fun y => br_t rfl ?_)
    · rw [bt_nI (by omega)] at y
      have e : outB E (some q) = true := y
      rw [e] at h; exact h
    · rw [bt_nI (by omega)] at y
      have e : outB E (some q) = false := y
      rw [e] at h; exact h
theorem all_0 {B : Nat} (h : outB E i = false ∨ outB E o = false) : allN K B E i o = [] := by
  refine cat_nil (fun s hs => stN_f ?_)
  unfold stOk
  rcases h with h | h
  · cases i with
    | none => exact absurd h (by show ¬ (true = false); decide)
    | some g =>
      cases e : inB (some g) s with
      | false => rw [Bool.and_false]; rfl
      | true =>
        have : g = s := eq_of_beq e
        have h' : E.testBit g = false := h
        rw [← this, h']; rfl
  · rw [h, Bool.and_false]
theorem furrows6 (ht : t < 6) (hf : f < 6) (hK : K < 6) (hT : T < 65536) (hE : E < 65536) (gi : gOk i) (go : gOk o) (hQ : Q6 S t f K T E i o) {post : Bun → Prop} (h : ∀ S' : Bun, Fr S S' → RM (cdN E) o (allN K (bsN K T) E i o) S' → post S') : wX6_furrows S J (nI t) (nI f) post := by
  unfold wX6_furrows
  rintro _ rfl _ rfl _ rfl _ rfl
  have fr : Fr S (up (up (up (up S 0 10 0) 0 11 (-1)) 0 13 0) 0 12 0) := by
    refine ⟨fun r a _ _ _ _ _ => by rw [up_k a, up_k a, up_k a, up_k a], fun k a b c d => by rw [up_ki c, up_ki d, up_ki b, up_ki a]⟩
  have rm : RM (cdN E) o [] (up (up (up (up S 0 10 0) 0 11 (-1)) 0 13 0) 0 12 0) := by
    refine ⟨(fun m hm => by cases hm), ?_, ?_, ?_, (fun m hm => by cases hm), ?_⟩
    · rw [up_ki (by decide), up_ki (by decide), up_ki (by decide), up_ss]; rfl
    · rw [up_ki (by decide), up_ki (by decide), up_ss]; rfl
    · rw [up_ki (by decide), up_ss]; rfl
    · rw [up_ss]; rfl
  generalize up (up (up (up S 0 10 0) 0 11 (-1)) 0 13 0) 0 12 0 = S4 at fr rm
  obtain ⟨q1, q2, q3, q4, q5⟩ := hQ.fr fr
  refine isGate6 (w := 2) hf (by decide) gi q4 q3 (br_b (fun z => h S4 fr ?_) (fun z => ?_))
  · rw [all_0 (Or.inl z)]; exact rm
  refine isGate6 (w := 3) hf (by decide) go q5 q3 (br_b (fun z2 => h S4 fr ?_) (fun z2 => ?_))
  · rw [all_0 (Or.inr z2)]; exact rm
  refine wl_up2 (fun j x S6 => x = nI j ∧ Fr S S6 ∧ RM (cdN E) o (catTo (stN K (bsN K T) E i o) j) S6) 16 ?_ (i := 0) (by decide) ⟨rfl, fr, rm⟩
  rintro j x S6 KK hj ⟨rfl, k1, k2⟩ hKK
  refine ⟨fun h4 => ?_, fun h4 => ?_⟩
  · have := (nI_leI (a := 16) (by decide) (by omega)).mp h4
    obtain rfl : j = 16 := by omega
    exact h S6 k1 k2
  · have hlt : j < 16 := by
      rcases Nat.lt_or_ge j 16 with h' | h'
      · exact h'
      · exact absurd (nI_le (a := 16) h' (by omega)) h4
    obtain ⟨p1, p2, p3, p4, p5⟩ := hQ.fr k1
    have skip : stOk E i o j = false → ∀ x15 : Int32, x15 = nI j + (1 : Int32) → KK (x15, S6) := by
      rintro hx _ rfl
      refine hKK _ _ hlt ⟨nI_1 j, k1, ?_⟩
      show RM (cdN E) o (catTo (stN K (bsN K T) E i o) j ++ stN K (bsN K T) E i o j) S6
      rw [stN_f hx, List.append_nil]; exact k2
    have go2 : stOk E i o j = true → wX6_begins S6 J (nI t) (nI f) (nI j) (fun S30 => ∀ x32 : Int32, x32 = nI j + (1 : Int32) → KK (x32, S30)) := by
      intro hok
      refine begins6 ht hf hK hT hE go (hQ.fr k1) (stOk_bit hok) k2 (fun S' u1 u2 => ?_)
      rintro _ rfl
      refine hKK _ _ hlt ⟨nI_1 j, k1.tr u1, ?_⟩
      show RM (cdN E) o (catTo (stN K (bsN K T) E i o) j ++ stN K (bsN K T) E i o j) S'
      rw [stN_t hok]; exact u2
    refine earth6 hf ?_
    rw [p3]
    refine has_b (by omega) (fun y => br_f (by decide) ?_) (fun y => br_t rfl (skip ?_))
    · rw [bt_nI (by omega)] at y
      refine its6 (w := 2) hf (by decide) ?_
      rw [p4]
      refine wj ?_
      cases i with
      | none => exact br_t (by decide) (go2 (by unfold stOk; rw [y, z2]; rfl))
      | some g =>
        have hg := gi g rfl
        refine br_f (nI_pos (by omega)) (its6 (w := 2) hf (by decide) ?_)
        rw [p4, show gI (some g) = nI j ↔ g = j from nI_eq (by omega) (by omega)]
        refine ⟨fun e => go2 ?_, fun e => skip ?_⟩
        · unfold stOk
          rw [y, z2, show inB (some g) j = true from beq_iff_eq.mpr e]; rfl
        · unfold stOk
          rw [show inB (some g) j = false from beq_eq_false_iff_ne.mpr e, Bool.and_false]; rfl
    · rw [bt_nI (by omega)] at y
      unfold stOk; rw [y]; rfl
/-- what it costs -/
def drN (K : Nat) : Nat := ([2, 1, 2, 3, 1, 6] : List Nat).getD K 0
theorem dr_I {K : Nat} (h : K < 6) : tbDear K = nI (drN K) := (show ∀ K, K < 6 → tbDear K = nI (drN K) by decide) K h
theorem dr_le {K : Nat} (h : K < 6) : 1 ≤ drN K ∧ drN K ≤ 6 := (show ∀ K, K < 6 → 1 ≤ drN K ∧ drN K ≤ 6 by decide) K h
def cstN (K p : Nat) (x : Option Nod) : Option Nat := match x with
  | none => none
  | some m => some (p * m.1 + drN K * m.2.2)
def cI (x : Option Nat) : Int32 := match x with
  | none => 1000000
  | some v => nI v
theorem RM.filt {M : Nat} {Ls : List Nod} {S : Bun} (h : RM M o Ls S) {W : List Nod} (e : Ls.filter (whl M o) = W) : S 0 10 = nI W.length ∧ S 0 11 = turO (bst W) ∧ S 0 13 = lenO (bst W) ∧ ∀ m, bst W = some m → ∀ k, k < m.1 → S 10 k = nI (m.2.1 k) := by
  subst e
  exact ⟨h.2.1, h.2.2.1, h.2.2.2.1, h.2.2.2.2.1⟩
theorem wh_bnd {B : Nat} (hE : E < 65536) {m : Nod} (h : bst (whN K B E i o) = some m) : m.1 = cdN E ∧ m.2.2 < 16 ∧ m.1 ≤ 16 := by
  have hm := wh_mem.mp (bst_mem h)
  have := all_mem hE hm.1
  have := cd_le E
  exact ⟨hm.2.1, by omega, by omega⟩
theorem mul_b {a b c d : Nat} (h1 : a ≤ b) (h2 : c ≤ d) : a * c ≤ b * d := Nat.mul_le_mul h1 h2
theorem cst_bnd {B : Nat} (hE : E < 65536) (hK : K < 6) (hp : p ≤ 9) {v : Nat} (h : cstN K p (bst (whN K B E i o)) = some v) : v < 1000 := by
  cases hb : bst (whN K B E i o) with
  | none => rw [hb] at h; cases h
  | some m =>
    rw [hb] at h
    obtain ⟨b1, b2, b3⟩ := wh_bnd hE hb
    have h' : p * m.1 + drN K * m.2.2 = v := Option.some.inj h
    have := mul_b hp b3
    have := mul_b (dr_le hK).2 (Nat.le_of_lt b2)
    omega
theorem costOf6 (ht : t < 6) (hf : f < 6) (hK : K < 6) (hT : T < 65536) (hE : E < 65536) (gi : gOk i) (go : gOk o) (hQ : Q6 S t f K T E i o) (ep : S 1 (45 + 2 * t) = nI p) {post : Int32 → Bun → Prop} (h : ∀ S' : Bun, Fr S S' → RM (cdN E) o (allN K (bsN K T) E i o) S' → post (gI (cstN K p (bst (whN K (bsN K T) E i o)))) S') : wX6_costOf S J (nI t) (nI f) post := by
  unfold wX6_costOf
  refine furrows6 ht hf hK hT hE gi go hQ (fun S' u1 u2 => ?_)
  obtain ⟨r1, r2, r3, r4⟩ := u2.filt (W := whN K (bsN K T) E i o) rfl
  have h' := h S' u1 u2
  rw [r2, r3]
  cases hb : bst (whN K (bsN K T) E i o) with
  | none =>
    rw [hb] at h'
    exact br_f (show ¬ (0 : Int32) ≤ -1 by decide) h'
  | some m =>
    rw [hb] at h'
    obtain ⟨b1, b2, b3⟩ := wh_bnd hE hb
    refine br_t (show (0 : Int32) ≤ nI m.2.2 from nI_pos' (by omega)) (paceOf6 ht (dear6 ht hK (hQ.fr u1).1 ?_))
    rw [u1.one, ep, dr_I hK]
    have e : nI p * lenO (some m) + nI (drN K) * turO (some m) = nI (p * m.1 + drN K * m.2.2) := by
      show nI p * nI m.1 + nI (drN K) * nI m.2.2 = _
      rw [pk_mul, pk_mul, nI_add]
    rw [e]
    exact h'
theorem costOf5 {b B : Nat} (hF : isF b) (ht : t < 6) (hK : K < 6) (hE : E < 65536) (ek : C 1 5 t = nI K) (ep : C 1 6 t = nI p) (hA : Ans K E B i o (C b)) {post : Int32 → Prop} (h : post (cI (cstN K p (bst (whN K B E i o))))) : wX5_costOf C N (nI t) b post := by
  unfold wX5_costOf
  obtain ⟨a0, a1, a2, a3, a4, a5, ⟨r0, r1, r2, r3, r4⟩, _⟩ := hA
  have hlen := whN_len (K := K) (B := B) (i := i) (o := o) hE
  rw [r1, a5, tn_nI (by omega), ek, ep, tn_nI (by omega)]
  refine ⟨hF, fun z => ?_, fun z => ?_⟩
  · have z' : (whN K B E i o).length = 0 := (nI_eq (b := 0) hlen (by decide)).mp z
    rw [List.length_eq_zero_iff.mp z'] at h
    exact h
  · obtain ⟨m, hm⟩ := bst_some (l := whN K B E i o) (fun q => z (by rw [q]; rfl))
    have vt : vp_in (nI t) 6 := vp_in_nI ht (by decide)
    obtain ⟨b1, b2, b3⟩ := wh_bnd hE hm
    refine ⟨vt, vt, vp_in_nI hK (by decide), ?_⟩
    rw [(r2 m hm).1, dr_I hK, pk_mul, pk_mul, nI_add, ← b1]
    rw [hm] at h
    exact h
/-- the invariant: one question of the class, or the model's search -/
theorem InvG.fur {b : Nat} {F : Bun} (h : InvG FI C N S J) (hF : isF b) (h2 : FI F) : InvG FI (va_up C b F) N S J := by
  have ne := isF_ne hF
  have e : ∀ x, x ≠ b → va_up C b F x = C x := fun x hx => up_o hx
  obtain ⟨p1, p2, p3, p4, p5, p6, p7⟩ := h
  refine ⟨?_, ?_, ?_, ?_, ?_, p6.same (fun k hk => e _ (fun z => ne.2.2.2.2.2.2 k hk z.symm)) (fun _ _ => rfl) rfl rfl rfl, fun x hx => ?_⟩
  · rw [e 1 (fun z => ne.2.1 z.symm)]; exact p1
  · rw [e 2 (fun z => ne.2.2.1 z.symm)]; exact p2
  · rw [e 0 (fun z => ne.1 z.symm)]; exact p3
  · rw [e 0 (fun z => ne.1 z.symm)]; exact p4
  · rw [e 4 (fun z => ne.2.2.2.2.1 z.symm)]; exact p5
  · by_cases q : x = b
    · rw [q, up_s]; exact h2
    · rw [e x q]; exact p7 x hx
theorem InvG.fr {S' : Bun} (h : InvG FI C N S J) (hf : Fr S S') : InvG FI C N S' J := by
  have r : ∀ x, x ≠ 0 → x ≠ 6 → x ≠ 7 → x ≠ 8 → x ≠ 9 → x ≠ 10 → S' x = S x := hf.1
  refine h.of ?_ ?_ ?_ ?_ ?_ ?_ (fun _ _ => rfl)
  · rw [hf.one]; exact h.1
  · rw [r 2 (by decide) (by decide) (by decide) (by decide) (by decide) (by decide)]; exact h.2.1
  · rw [hf.2 4 (by decide) (by decide) (by decide) (by decide)]; exact h.2.2.1
  · rw [r 4 (by decide) (by decide) (by decide) (by decide) (by decide) (by decide)]; exact h.2.2.2.1
  · exact h.2.2.2.2.1.same rfl (hf.2 24 (by decide) (by decide) (by decide) (by decide)) rfl (r 24 (by decide) (by decide) (by decide) (by decide) (by decide) (by decide))
  · exact h.2.2.2.2.2.1.same (fun _ _ => rfl) (fun _ _ => rfl) (r 30 (by decide) (by decide) (by decide) (by decide) (by decide) (by decide)) (r 31 (by decide) (by decide) (by decide) (by decide) (by decide) (by decide)) rfl
/-- a team and a field -/
def QD (C : Nat → Bun) (t f K p T E : Nat) (i o : Option Nat) : Prop := (C 1 5 t = nI K ∧ C 1 6 t = nI p ∧ C 1 3 (6 * f + 1) = nI T ∧ earthOf (C 1 3 (6 * f)) (C 1 3 (6 * f + 1)) = nI E ∧ C 1 3 (6 * f + 2) = gI i ∧ C 1 3 (6 * f + 3) = gI o) ∧ K < 6 ∧ (1 ≤ p ∧ p ≤ 9) ∧ T < 65536 ∧ E < 65536 ∧ gOk i ∧ gOk o
theorem QD_of {m : Nat} (hI : InvG FI C N S J) (hm : m ≤ 6) (em : C 1 0 1 = nI m) (ht : t < m) (hf : f < 6) : ∃ K p T E i o, QD C t f K p T E i o ∧ Q6 S t f K T E i o ∧ S 1 (45 + 2 * t) = nI p := by
  have ht6 : t < 6 := by omega
  obtain ⟨K, hK, ek⟩ := hI.1.1.2.2.2.2.1 t ht6
  obtain ⟨p, hp1, hp2, ep⟩ := hI.1.1.2.2.2.2.2 t m em ht hm
  have w3 := hI.1.1.2.2.1 f hf
  have h1 := w3.1 1 (by decide)
  obtain ⟨T, hT, eT⟩ := of_toInt (n := 65536) h1.1 (by omega) (by decide)
  obtain ⟨E, hE, eE⟩ := earth_n (C 1 3 (6 * f)) (C 1 3 (6 * f + 1))
  obtain ⟨i, gi, ei⟩ := gI_of (w3.2.1 2 (by decide) (by decide)).1 (w3.2.1 2 (by decide) (by decide)).2
  obtain ⟨o, go, eo⟩ := gI_of (w3.2.1 3 (by decide) (by decide)).1 (w3.2.1 3 (by decide) (by decide)).2
  have r3 := hI.1.2.2.2.1
  have r5 := hI.1.2.2.2.2.2 t ht6
  have s0 : S 1 (2 + 6 * f) = C 1 3 (6 * f) := r3 _ (by omega)
  have s1 : S 1 (2 + (6 * f + 1)) = C 1 3 (6 * f + 1) := r3 _ (by omega)
  refine ⟨K, p, T, E, i, o, ⟨⟨ek, ep, eT, eE, ei, eo⟩, hK, ⟨hp1, hp2⟩, hT, hE, gi, go⟩, ⟨r5.1.trans ek, s1.trans eT, by rw [s0, s1]; exact eE, (r3 _ (by omega)).trans ei, (r3 _ (by omega)).trans eo⟩, r5.2.trans ep⟩
theorem furrowsOf5 (hI : InvG FIs C N S J) (ht : t < 6) (hf : f < 6) (hQ : QD C t f K p T E i o) {post : Nat → (Nat → Bun) → Prop} (h : ∀ (b : Nat) (F : Bun), isF b → FIs F → Ans K E (bsN K T) i o F → post b (va_up C b F)) : wX5_furrowsOf C N (nI t) (nI f) post := by
  obtain ⟨⟨ek, ep, eT, eE, ei, eo⟩, hK, hp, hT, hE, gi, go⟩ := hQ
  unfold wX5_furrowsOf
  rw [tn_nI (by omega), ek]
  refine ⟨vp_in_nI ht (by decide), ?_⟩
  rintro _ rfl
  rw [ix_m hf hK, tn_nI (by omega)]
  refine ⟨vp_in_nI (by omega) (by decide), earth5 hf (mark5 (w := 1) hf (by decide) (mark5 (w := 2) hf (by decide) (mark5 (w := 3) hf (by decide) ?_)))⟩
  rw [eE, eT, ei, eo]
  have hb : isF (6 * f + K + 11) := Or.inr ⟨by omega, by omega⟩
  refine ask5 (hI.2.2.2.2.2.2 _ hb) hK hE gi go (fun F u1 u2 => ?_)
  rintro _ rfl
  exact h _ F hb u1 u2
end
