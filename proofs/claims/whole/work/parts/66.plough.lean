/-! the class's search of whole furrows -/
section
def bup (x : Option Nod) (m : Nod) : Option Nod := match x with
  | none => some m
  | some y => if m.2.2 < y.2.2 then some m else some y
def bst (l : List Nod) : Option Nod := l.foldl bup none
def mup (x : Option Nat) (v : Nat) : Option Nat := match x with
  | none => some v
  | some y => if v < y then some v else some y
def mnT (l : List Nod) : Option Nat := l.foldl (fun x m => mup x m.2.2) none
theorem bst_snoc (l : List Nod) (m : Nod) : bst (l ++ [m]) = bup (bst l) m := by unfold bst; rw [List.foldl_append]; rfl
theorem mnT_snoc (l : List Nod) (m : Nod) : mnT (l ++ [m]) = mup (mnT l) m.2.2 := by unfold mnT; rw [List.foldl_append]; rfl
theorem fold_bst : ∀ (l : List Nod) (x : Option Nod) (m : Nod), l.foldl bup x = some m → m ∈ l ∨ x = some m
  | [], x, m, h => Or.inr h
  | a :: l, x, m, h => by
    rcases fold_bst l (bup x a) m h with h | h
    · exact Or.inl (List.mem_cons_of_mem _ h)
    · cases x with
      | none =>
        have : a = m := Option.some.inj h
        exact Or.inl (by rw [this]; exact List.mem_cons_self)
      | some y =>
        have h' : (if a.2.2 < y.2.2 then some a else some y) = some m := h
        by_cases q : a.2.2 < y.2.2
        · rw [if_pos q] at h'
          exact Or.inl (by rw [Option.some.inj h']; exact List.mem_cons_self)
        · rw [if_neg q] at h'
          exact Or.inr h'
theorem bst_mem {l : List Nod} {m : Nod} (h : bst l = some m) : m ∈ l := by
  rcases fold_bst l none m h with h | h
  · exact h
  · cases h
theorem fold_some : ∀ (l : List Nod) (y : Nod), ∃ z, l.foldl bup (some y) = some z
  | [], y => ⟨y, rfl⟩
  | a :: l, y => by
    show ∃ z, l.foldl bup (if a.2.2 < y.2.2 then some a else some y) = some z
    split
    · exact fold_some l a
    · exact fold_some l y
theorem bst_some {l : List Nod} (h : l ≠ []) : ∃ m, bst l = some m := by
  cases l with
  | nil => exact absurd rfl h
  | cons a l => exact fold_some l a
theorem fold_mn : ∀ (l : List Nod) (x : Option Nat) (v : Nat), l.foldl (fun x m => mup x m.2.2) x = some v → (∃ m ∈ l, v = m.2.2) ∨ x = some v
  | [], x, m, h => Or.inr h
  | a :: l, x, v, h => by
    rcases fold_mn l (mup x a.2.2) v h with ⟨m, hm, e⟩ | h
    · exact Or.inl ⟨m, List.mem_cons_of_mem _ hm, e⟩
    · cases x with
      | none =>
        have : a.2.2 = v := Option.some.inj h
        exact Or.inl ⟨a, List.mem_cons_self, this.symm⟩
      | some y =>
        have h' : (if a.2.2 < y then some a.2.2 else some y) = some v := h
        by_cases q : a.2.2 < y
        · rw [if_pos q] at h'
          exact Or.inl ⟨a, List.mem_cons_self, (Option.some.inj h').symm⟩
        · rw [if_neg q] at h'
          exact Or.inr h'
theorem mnT_mem {l : List Nod} {v : Nat} (h : mnT l = some v) : ∃ m ∈ l, v = m.2.2 := by
  rcases fold_mn l none v h with h | h
  · exact h
  · cases h
/-- what the class has found -/
def Rp (W : List Nod) (S : Bun) : Prop := (∀ m ∈ W, m.2.2 < 100) ∧ S 0 6 = nI W.length ∧ (∀ m, bst W = some m → S 0 7 = nI m.2.2 ∧ ∀ k, k < m.1 → S 9 k = nI (m.2.1 k)) ∧ (∀ c, c < 16 → S 10 c = gI (mnT (W.filter (fun m => m.2.1 0 == c)))) ∧ ∀ c, c < 16 → S 11 c = gI (mnT (W.filter (fun m => m.2.1 (m.1 - 1) == c)))
theorem keepLeast5 {f : Nat → Int32} {c tu : Nat} {v : Option Nat} (hc : c < 16) (hv : ∀ x, v = some x → x < 100) (ht : tu < 100) (e : f c = gI v) {post : (Nat → Int32) → Prop} (h : ∀ f' : Nat → Int32, (∀ k, f' k = if k = c then gI (mup v tu) else f k) → post f') : wX0_keepLeast f (nI c) (nI tu) post := by
  unfold wX0_keepLeast
  rw [tn_nI (by omega), e]
  have vc : vp_in (nI c) 16 := vp_in_nI hc (by decide)
  have yes : mup v tu = some tu → vp_in (nI c) 16 ∧ ∀ f4 : Nat → Int32, f4 = upd f c (nI tu) → post f4 := by
    intro q
    refine ⟨vc, ?_⟩
    rintro _ rfl
    refine h _ (fun k => ?_)
    rw [q]
    rfl
  refine ⟨vc, wj ?_⟩
  cases v with
  | none => exact br_t (by decide) (yes rfl)
  | some y =>
    have hy := hv y rfl
    refine br_f (nI_pos (by omega)) ⟨vc, ?_⟩
    rw [show gI (some y) ≤ nI tu ↔ y ≤ tu from nI_leI (by omega) (by omega)]
    refine ⟨fun z => h f (fun k => ?_), fun z => yes (if_pos (by omega))⟩
    by_cases q : k = c
    · rw [if_pos q, q, e, show mup (some y) tu = some y from if_neg (by omega)]
    · rw [if_neg q]
theorem filt_snoc (W : List Nod) (p : Nod → Bool) (m : Nod) : mnT ((W ++ [m]).filter p) = if p m then mup (mnT (W.filter p)) m.2.2 else mnT (W.filter p) := by
  rw [List.filter_append]
  cases h : p m with
  | true => rw [if_pos rfl, List.filter_cons_of_pos h, List.filter_nil, mnT_snoc]
  | false => rw [if_neg (by decide), List.filter_cons_of_neg (by rw [h]; decide), List.filter_nil, List.append_nil]
theorem keep5 {S : Bun} {W : List Nod} {n tu : Nat} {w : Nat → Nat} {o : Option Nat} (hR : Rp W S) (hlen : W.length < 2 ^ 31) (hn : 1 ≤ n) (hn16 : n ≤ 16) (hw : ∀ k, k < n → S 14 k = nI (w k)) (hw16 : ∀ k, k < n → w k < 16) (ht : tu < 100) (eo : S 0 4 = gI o) (ho : gOk o) {post : Bun → Prop} (h : ∀ S' : Bun, (∀ k, k ≠ 6 → k ≠ 7 → S' 0 k = S 0 k) → S' 14 = S 14 → Rp (W ++ (if okO o (n, w, tu) then [(n, w, tu)] else [])) S' → post S') : wX0_keep S (nI (w (n - 1))) (nI tu) post := by
  unfold wX0_keep
  obtain ⟨r0, r1, r2, r3, r4⟩ := hR
  have hl := hw16 (n - 1) (by omega)
  have hf := hw16 0 (by omega)
  have tail : okO o (n, w, tu) = true → ∀ S4 : Bun, (∀ r, r ≠ 0 → r ≠ 9 → S4 r = S r) → (∀ k, k ≠ 7 → S4 0 k = S 0 k) → (∀ m, bup (bst W) (n, w, tu) = some m → S4 0 7 = nI m.2.2 ∧ ∀ k, k < m.1 → S4 9 k = nI (m.2.1 k)) → ∀ S8 : Bun, S8 = up S4 0 6 ((S4 0 6) + (1 : Int32)) → vp_in (0 : Int32) 16 ∧ wX0_keepLeast (S8 10) (S8 14 (0 : Int32).toNatClampNeg) (nI tu) (fun f11 => ∀ S12 : Bun, S12 = va_up S8 10 f11 → wX0_keepLeast (S12 11) (nI (w (n - 1))) (nI tu) (fun f15 => ∀ S16 : Bun, S16 = va_up S12 11 f15 → post S16)) := by
    rintro hok S4 s1 s2 s3 S8 rfl
    rw [if_pos hok] at h
    have g14 : up S4 0 6 ((S4 0 6) + (1 : Int32)) 14 (0 : Int32).toNatClampNeg = nI (w 0) := by
      rw [up_k (by decide), s1 14 (by decide) (by decide)]
      exact hw 0 (by omega)
    refine ⟨by unfold vp_in; decide, ?_⟩
    rw [g14]
    refine keepLeast5 (v := mnT (W.filter (fun m => m.2.1 0 == w 0))) hf (fun x hx => ?_) ht ?_ (fun f' hf' => ?_)
    · obtain ⟨m, hm, e⟩ := mnT_mem hx
      rw [e]; exact r0 m (List.mem_filter.mp hm).1
    · rw [up_k (by decide), s1 10 (by decide) (by decide)]; exact r3 _ hf
    rintro _ rfl
    refine keepLeast5 (v := mnT (W.filter (fun m => m.2.1 (m.1 - 1) == w (n - 1)))) hl (fun x hx => ?_) ht ?_ (fun f2 hf2 => ?_)
    · obtain ⟨m, hm, e⟩ := mnT_mem hx
      rw [e]; exact r0 m (List.mem_filter.mp hm).1
    · rw [up_o (by decide), up_k (by decide), s1 11 (by decide) (by decide)]; exact r4 _ hl
    rintro _ rfl
    refine h _ (fun k k6 k7 => ?_) ?_ ⟨fun m hm => ?_, ?_, fun m hm => ?_, fun c hc => ?_, fun c hc => ?_⟩
    · rw [up_o (by decide), up_o (by decide), up_ki k6, s2 k k7]
    · rw [up_o (by decide), up_o (by decide), up_k (by decide), s1 14 (by decide) (by decide)]
    · rcases List.mem_append.mp hm with hm | hm
      · exact r0 m hm
      · rw [List.mem_singleton.mp hm]; exact ht
    · rw [up_o (by decide), up_o (by decide), up_ss, s2 6 (by decide), r1, List.length_append]
      exact nI_1 _
    · rw [bst_snoc] at hm
      obtain ⟨q1, q2⟩ := s3 m hm
      refine ⟨?_, fun k hk => ?_⟩
      · rw [up_o (by decide), up_o (by decide), up_ki (by decide)]; exact q1
      · rw [up_o (by decide), up_o (by decide), up_k (by decide)]; exact q2 k hk
    · rw [up_o (by decide), up_s, hf', filt_snoc]
      by_cases q : c = w 0
      · rw [if_pos q, if_pos (by rw [q]; exact beq_self_eq_true _), q]
      · rw [if_neg q, if_neg (by show ¬ ((w 0 == c) = true); rw [beq_iff_eq]; exact fun z => q z.symm), up_k (by decide), s1 10 (by decide) (by decide)]
        exact r3 c hc
    · rw [up_s, hf2, filt_snoc]
      by_cases q : c = w (n - 1)
      · rw [if_pos q, if_pos (by rw [q]; exact beq_self_eq_true _), q]
      · rw [if_neg q, if_neg (by show ¬ ((w (n - 1) == c) = true); rw [beq_iff_eq]; exact fun z => q z.symm), up_o (by decide), up_k (by decide), s1 11 (by decide) (by decide)]
        exact r4 c hc
  have main : okO o (n, w, tu) = true → wjoin (σ := Bun) (fun S4 => ∀ S8 : Bun, S8 = up S4 0 6 ((S4 0 6) + (1 : Int32)) → vp_in (0 : Int32) 16 ∧ wX0_keepLeast (S8 10) (S8 14 (0 : Int32).toNatClampNeg) (nI tu) (fun f11 => ∀ S12 : Bun, S12 = va_up S8 10 f11 → wX0_keepLeast (S12 11) (nI (w (n - 1))) (nI tu) (fun f15 => ∀ S16 : Bun, S16 = va_up S12 11 f15 → post S16))) (fun J5 => wjoin (σ := Unit) (fun _ => ∀ S20 : Bun, S20 = up S 0 7 (nI tu) → ∀ S21 : Bun, S21 = va_up S20 9 (va_cpy (S20 14) (S20 9) (0 : Int32).toNatClampNeg (0 : Int32).toNatClampNeg (16 : Int32).toNatClampNeg) → J5 S21) (fun J17 => (((S 0 6) = 0 → J17 ()) ∧ (¬ ((S 0 6) = 0) → (((S 0 7) ≤ nI tu → J5 S) ∧ (¬ ((S 0 7) ≤ nI tu) → J17 ())))))) := by
    intro hok
    have T := tail hok
    have new : bup (bst W) (n, w, tu) = some (n, w, tu) → ∀ S20 : Bun, S20 = up S 0 7 (nI tu) → ∀ S21 : Bun, S21 = va_up S20 9 (va_cpy (S20 14) (S20 9) (0 : Int32).toNatClampNeg (0 : Int32).toNatClampNeg (16 : Int32).toNatClampNeg) → ∀ S8 : Bun, S8 = up S21 0 6 ((S21 0 6) + (1 : Int32)) → vp_in (0 : Int32) 16 ∧ wX0_keepLeast (S8 10) (S8 14 (0 : Int32).toNatClampNeg) (nI tu) (fun f11 => ∀ S12 : Bun, S12 = va_up S8 10 f11 → wX0_keepLeast (S12 11) (nI (w (n - 1))) (nI tu) (fun f15 => ∀ S16 : Bun, S16 = va_up S12 11 f15 → post S16)) := by
      rintro hb _ rfl _ rfl
      refine T _ (fun r h0 h9 => by rw [up_o h9, up_k h0]) (fun k hk => by rw [up_o (by decide), up_ki hk]) (fun m hm => ?_)
      rw [hb] at hm
      obtain rfl := Option.some.inj hm
      refine ⟨by rw [up_o (by decide), up_ss], fun k hk => ?_⟩
      have hk' : k < n := hk
      rw [up_s, up_k (by decide), up_k (by decide)]
      have : va_cpy (S 14) (S 9) (0 : Int32).toNatClampNeg (0 : Int32).toNatClampNeg (16 : Int32).toNatClampNeg k = S 14 k := sb_cpy0 (show k < 16 by omega)
      rw [this]
      exact hw k hk'
    refine wj (wj ⟨fun z => new ?_, fun z => ⟨fun z2 => ?_, fun z2 => new ?_⟩⟩)
    · rw [r1] at z
      have : W.length = 0 := (nI_eq (b := 0) hlen (by decide)).mp z
      rw [List.length_eq_zero_iff.mp this]; rfl
    · obtain ⟨m, hm⟩ := bst_some (l := W) (fun q => z (by rw [r1, q]; rfl))
      have hlt := r0 m (bst_mem hm)
      rw [(r2 m hm).1] at z2
      have := (nI_leI (by omega) (by omega)).mp z2
      refine T S (fun _ _ _ => rfl) (fun _ _ => rfl) (fun m2 hm2 => ?_)
      rw [hm] at hm2
      have e : bup (some m) (n, w, tu) = some m := if_neg (by show ¬ tu < m.2.2; omega)
      rw [e] at hm2
      obtain rfl := Option.some.inj hm2
      exact r2 m hm
    · obtain ⟨m, hm⟩ := bst_some (l := W) (fun q => z (by rw [r1, q]; rfl))
      have hlt := r0 m (bst_mem hm)
      rw [(r2 m hm).1] at z2
      have : ¬ m.2.2 ≤ tu := fun q => z2 (nI_le q (by omega))
      rw [hm]
      exact if_pos (show tu < m.2.2 by omega)
  refine wj ?_
  rw [eo]
  cases o with
  | none => exact br_t (by decide) (main rfl)
  | some q =>
    have hq := ho q rfl
    refine br_f (nI_pos (by omega)) ?_
    rw [show nI (w (n - 1)) = gI (some q) ↔ w (n - 1) = q from nI_eq (by omega) (by omega)]
    refine ⟨fun z => main (by show (w (n - 1) == q) = true; rw [z]; exact beq_self_eq_true _), fun z => ?_⟩
    have e : okO (some q) (n, w, tu) = false := beq_eq_false_iff_ne.mpr z
    rw [e] at h
    refine h S (fun _ _ _ => rfl) rfl ?_
    rw [if_neg (by decide), List.append_nil]
    exact ⟨r0, r1, r2, r3, r4⟩
end
