/-! THE CLASS'S WHOLE WORLD: 47 bundles: 0 the object itself, 1 now, 2 kept, 3 draft, 4 the text, 5 the rows, 6 trial, 7 to 10 the sheets, 11 to 46 the furrows asked for -/
def wO (g : Gl) (q : Nat → Nat → Nat) (S : Bun) : va_W := [(q 0 0, .inr (5, [.ref (q 1 0), .ref (q 2 0), .ref (q 3 0), .int (S 0 3), .ref (q 4 0), .ref (q 0 6), .ref (q 0 7), .ref (q 0 8), .ref (q 6 0), .ref (q 5 0), .ref (q 0 11)])), (q 0 6, .inl (g.2 3, 4, .inr (.inr (.inr (.inr (fun i => some (q (i + 7) 0))))))), (q 0 7, .inl (g.2 0, 7, .inl (S 7))), (q 0 8, .inl (g.2 2, 36, .inr (.inr (.inr (.inr (fun i => some (q (i + 11) 0))))))), (q 0 11, .inl (g.2 0, 6, .inl (S 11)))]
def isP (b : Nat) : Prop := 1 ≤ b ∧ b ≤ 3
def isF (b : Nat) : Prop := b = 6 ∨ (11 ≤ b ∧ b < 47)
def isH (b : Nat) : Prop := 7 ≤ b ∧ b < 11
def bw (g : Gl) (q : Nat → Nat → Nat) (C : Nat → Bun) (N : Nat → Lon) (b : Nat) : va_W := if b = 0 then wO g q (C b) else if b ≤ 3 then wP g (q b) (C b) else if b = 4 then wT g (q b) (C b) else if b = 5 then wR g (q b) (C b) else if b = 6 then wF g (q b) (C b) else if b ≤ 10 then wH g (q b) (C b, N b) else wF g (q b) (C b)
def wC (g : Gl) (q : Nat → Nat → Nat) (u : (Nat → Bun) × (Nat → Lon)) : va_W := (List.range 47).flatMap (bw g q u.1 u.2)
theorem bw_P {g : Gl} {q : Nat → Nat → Nat} {C : Nat → Bun} {N : Nat → Lon} {b : Nat} (h : isP b) : bw g q C N b = wP g (q b) (C b) := by
  obtain ⟨h1, h2⟩ := h
  unfold bw
  rw [if_neg (by omega), if_pos h2]
theorem bw_F {g : Gl} {q : Nat → Nat → Nat} {C : Nat → Bun} {N : Nat → Lon} {b : Nat} (h : isF b) : bw g q C N b = wF g (q b) (C b) := by
  unfold bw
  rcases h with rfl | ⟨h1, h2⟩
  · rfl
  · rw [if_neg (by omega), if_neg (by omega), if_neg (by omega), if_neg (by omega), if_neg (by omega), if_neg (by omega)]
theorem bw_H {g : Gl} {q : Nat → Nat → Nat} {C : Nat → Bun} {N : Nat → Lon} {b : Nat} (h : isH b) : bw g q C N b = wH g (q b) (C b, N b) := by
  obtain ⟨h1, h2⟩ := h
  unfold bw
  rw [if_neg (by omega), if_neg (by omega), if_neg (by omega), if_neg (by omega), if_neg (by omega), if_pos (by omega)]
theorem bw_ne {g : Gl} {q : Nat → Nat → Nat} {C C1 : Nat → Bun} {N N1 : Nat → Lon} {i : Nat} (h1 : C1 i = C i) (h2 : N1 i = N i) : bw g q C1 N1 i = bw g q C N i := by
  unfold bw
  rw [h1, h2]
/-! lists of lists -/
theorem fm_split (f : Nat → va_W) {n b : Nat} (hb : b < n) : (List.range n).flatMap f = (List.range b).flatMap f ++ (f b ++ (List.range' (b + 1) (n - b - 1)).flatMap f) := by
  have h : List.range n = List.range b ++ b :: List.range' (b + 1) (n - b - 1) := by
    rw [List.range_eq_range', List.range_eq_range']
    have h1 : List.range' 0 n = List.range' 0 b ++ List.range' b (n - b) := by
      have := List.range'_append_1 (s := 0) (m := b) (n := n - b)
      rw [Nat.zero_add] at this
      rw [this]
      congr 1
      omega
    rw [h1]
    congr 1
    have h2 : n - b = (n - b - 1) + 1 := by omega
    rw [h2, List.range'_succ]
    congr 1
  rw [h, List.flatMap_append, List.flatMap_cons]
def fst (f : Nat → va_W) (b : Nat) : Nat := ((List.range b).flatMap f).length
theorem fm_congr {f f' : Nat → va_W} {l : List Nat} (h : ∀ i ∈ l, f' i = f i) : l.flatMap f' = l.flatMap f := by
  induction l with
  | nil => rfl
  | cons a l ih => rw [List.flatMap_cons, List.flatMap_cons, h a List.mem_cons_self, ih (fun i hi => h i (List.mem_cons_of_mem _ hi))]
theorem fm_at (f : Nat → va_W) {n b j : Nat} {c : Nat × va_E} (hb : b < n) (hj : (f b)[j]? = some c) : ((List.range n).flatMap f)[fst f b + j]? = some c := by
  have hl : j < (f b).length := (List.getElem?_eq_some_iff.mp hj).1
  rw [fm_split f hb]
  unfold fst
  rw [List.getElem?_append_right (by omega), Nat.add_sub_cancel_left, List.getElem?_append_left hl]
  exact hj
theorem fm_set {f f' : Nat → va_W} {n b j : Nat} {c : Nat × va_E} (hb : b < n) (hj : j < (f b).length) (h1 : f' b = (f b).set j c) (h2 : ∀ i, i ≠ b → f' i = f i) : ((List.range n).flatMap f).set (fst f b + j) c = (List.range n).flatMap f' := by
  rw [fm_split f hb, fm_split f' hb, h1, fm_congr (l := List.range b) (f := f) (f' := f') (fun i hi => h2 i (by have := List.mem_range.mp hi; omega)), fm_congr (l := List.range' (b + 1) (n - b - 1)) (f := f) (f' := f') (fun i hi => h2 i (by have := List.mem_range'_1.mp hi; omega))]
  unfold fst
  rw [List.set_append_right _ _ (by omega), Nat.add_sub_cancel_left, List.set_append_left _ _ hj]
/-- the same with its places said -/
def SubAt (is : List Nat) (ws wc ws' wc' : va_W) : Prop := is.map (fun i => ws[i]?) = wc.map some ∧ (∀ i, i ∉ is → ws'[i]? = ws[i]?) ∧ (∀ i ∈ is, ∀ q, ws'[i]? = some q → ∃ k : Nat, wc'[k]? = some q) ∧ ws'.map (fun q => q.1) = ws.map (fun q => q.1)
theorem mid_map (X w Y : va_W) : (List.range' X.length w.length).map (fun i => (X ++ (w ++ Y))[i]?) = w.map some := by
  apply List.ext_getElem?
  intro i
  by_cases h : i < w.length
  · simp [h, List.getElem?_range', List.getElem?_append_right, List.getElem?_append_left h]
  · simp [h]
theorem mid_sub {X w Y w' : va_W} (e : w'.map (fun q => q.1) = w.map (fun q => q.1)) : SubAt (List.range' X.length w.length) (X ++ (w ++ Y)) w (X ++ (w' ++ Y)) w' := by
  have hl : w'.length = w.length := by simpa using congrArg List.length e
  refine ⟨mid_map X w Y, fun i hi => ?_, fun i hi q hq => ?_, by simp [e]⟩
  · by_cases h : i < X.length
    · rw [List.getElem?_append_left h, List.getElem?_append_left h]
    · have h2 : X.length + w.length ≤ i := by
        rcases Nat.lt_or_ge i (X.length + w.length) with h3 | h3
        · exact absurd (List.mem_range'_1.mpr ⟨by omega, h3⟩) hi
        · exact h3
      rw [List.getElem?_append_right (by omega), List.getElem?_append_right (by omega), List.getElem?_append_right (by omega), List.getElem?_append_right (by omega), hl]
  · have h := List.mem_range'_1.mp hi
    rw [List.getElem?_append_right h.1, List.getElem?_append_left (by omega)] at hq
    exact ⟨_, hq⟩
theorem nd_range' : ∀ (m n : Nat), va_nd (List.range' n m) = true := by
  intro m
  induction m with
  | zero => intro n; rfl
  | succ m ih =>
    intro n
    rw [List.range'_succ]
    simp only [va_nd, Bool.and_eq_true, ih, and_true]
    simp
theorem nd_iff : ∀ l : List Nat, va_nd l = true ↔ l.Nodup := by
  intro l
  induction l with
  | nil => simp [va_nd]
  | cons a l ih => simp [va_nd, ih]
theorem fm_sub {f f' : Nat → va_W} {n b : Nat} (hb : b < n) (h : ∀ i, i ≠ b → f' i = f i) (e : (f' b).map (fun q => q.1) = (f b).map (fun q => q.1)) : SubAt (List.range' (fst f b) (f b).length) ((List.range n).flatMap f) (f b) ((List.range n).flatMap f') (f' b) := by
  rw [fm_split f hb, fm_split f' hb, fm_congr (l := List.range b) (f := f) (f' := f') (fun i hi => h i (by have := List.mem_range.mp hi; omega)), fm_congr (l := List.range' (b + 1) (n - b - 1)) (f := f) (f' := f') (fun i hi => h i (by have := List.mem_range'_1.mp hi; omega))]
  exact mid_sub e
theorem fm_sub1 (f : Nat → va_W) {n b : Nat} (hb : b < n) : Sub1 ((List.range n).flatMap f) (f b) := by
  refine ⟨List.range' (fst f b) (f b).length, nd_range' _ _, ?_⟩
  rw [fm_split f hb]
  exact mid_map _ _ _
theorem SubAt.sub {is : List Nat} {ws wc ws' wc' : va_W} (h : SubAt is ws wc ws' wc') : Sub ws wc ws' wc' := ⟨is, h⟩
theorem SubAt.two {is1 is2 : List Nat} {ws w1 ws1 w1' w2 ws2 w2' : va_W} (h1 : SubAt is1 ws w1 ws1 w1') (h2 : SubAt is2 ws1 w2 ws2 w2') (hd : ∀ i ∈ is1, i ∉ is2) : SubAt (is1 ++ is2) ws (w1 ++ w2) ws2 (w1' ++ w2') := by
  obtain ⟨a1, a2, a3, a4⟩ := h1
  obtain ⟨b1, b2, b3, b4⟩ := h2
  refine ⟨?_, fun i hi => ?_, fun i hi q hq => ?_, b4.trans a4⟩
  · rw [List.map_append, List.map_append, a1, ← b1]
    congr 1
    apply List.map_congr_left
    intro i hi
    exact (a2 i (fun h => hd i h hi)).symm
  · rw [b2 i (fun h => hi (List.mem_append_right _ h)), a2 i (fun h => hi (List.mem_append_left _ h))]
  · by_cases h : i ∈ is2
    · obtain ⟨k, hk⟩ := b3 i h q hq
      exact ⟨w1'.length + k, by rw [List.getElem?_append_right (by omega), Nat.add_sub_cancel_left]; exact hk⟩
    · have h3 : i ∈ is1 := (List.mem_append.mp hi).resolve_right h
      rw [b2 i h] at hq
      obtain ⟨k, hk⟩ := a3 i h3 q hq
      have hl : k < w1'.length := (List.getElem?_eq_some_iff.mp hk).1
      exact ⟨k, by rw [List.getElem?_append_left hl]; exact hk⟩
theorem fst_le (f : Nat → va_W) {a b : Nat} (h : a < b) : fst f a + (f a).length ≤ fst f b := by
  unfold fst
  rw [fm_split f h]
  simp
theorem fst_same {f f' : Nat → va_W} (h : ∀ i, (f' i).length = (f i).length) (b : Nat) : fst f' b = fst f b := by
  unfold fst
  rw [List.length_flatMap, List.length_flatMap]
  congr 1
  exact List.map_congr_left (fun i _ => h i)
theorem fm_dis (f : Nat → va_W) {a b : Nat} (h : a ≠ b) : ∀ i ∈ List.range' (fst f a) (f a).length, i ∉ List.range' (fst f b) (f b).length := by
  intro i h1 h2
  have h1 := List.mem_range'_1.mp h1
  have h2 := List.mem_range'_1.mp h2
  rcases Nat.lt_or_gt_of_ne h with h3 | h3
  · have := fst_le f h3; omega
  · have := fst_le f h3; omega
section
variable {g : Gl} {q : Nat → Nat → Nat} {C : Nat → Bun} {N : Nat → Lon} {b b2 : Nat}
theorem up_o {α : Type} {f : Nat → α} {i k : Nat} {v : α} (h : i ≠ k) : va_up f k v i = f i := if_neg h
theorem up_s {α : Type} {f : Nat → α} {k : Nat} {v : α} : va_up f k v k = v := if_pos rfl
theorem sC1 (hb : b < 47) : Sub1 (wC g q (C, N)) (bw g q C N b) := fm_sub1 (bw g q C N) hb
theorem sCA (hb : b < 47) {C1 : Nat → Bun} {N1 : Nat → Lon} (h1 : ∀ i, i ≠ b → C1 i = C i) (h2 : ∀ i, i ≠ b → N1 i = N i) (e : (bw g q C1 N1 b).map (fun q => q.1) = (bw g q C N b).map (fun q => q.1)) : SubAt (List.range' (fst (bw g q C N) b) (bw g q C N b).length) (wC g q (C, N)) (bw g q C N b) (wC g q (C1, N1)) (bw g q C1 N1 b) := fm_sub hb (fun i hi => bw_ne (h1 i hi) (h2 i hi)) e
theorem ltP (h : isP b) : b < 47 := by have := h.2; omega
theorem ltF (h : isF b) : b < 47 := by rcases h with rfl | h <;> omega
theorem ltH (h : isH b) : b < 47 := by have := h.2; omega
theorem sC1P (h : isP b) : Sub1 (wC g q (C, N)) (wP g (q b) (C b)) := by rw [← bw_P (N := N) h]; exact sC1 (ltP h)
theorem sC1F (h : isF b) : Sub1 (wC g q (C, N)) (wF g (q b) (C b)) := by rw [← bw_F (N := N) h]; exact sC1 (ltF h)
theorem sC1H (h : isH b) : Sub1 (wC g q (C, N)) (wH g (q b) (C b, N b)) := by rw [← bw_H h]; exact sC1 (ltH h)
theorem sC1O : Sub1 (wC g q (C, N)) (wO g q (C 0)) := sC1 (b := 0) (by decide)
theorem sC1T : Sub1 (wC g q (C, N)) (wT g (q 4) (C 4)) := sC1 (b := 4) (by decide)
theorem sC1R : Sub1 (wC g q (C, N)) (wR g (q 5) (C 5)) := sC1 (b := 5) (by decide)
theorem sCatP (h : isP b) (S1 : Bun) : SubAt (List.range' (fst (bw g q C N) b) (bw g q C N b).length) (wC g q (C, N)) (wP g (q b) (C b)) (wC g q (va_up C b S1, N)) (wP g (q b) S1) := by
  have k := sCA (g := g) (q := q) (C := C) (N := N) (ltP h) (C1 := va_up C b S1) (N1 := N) (fun i hi => up_o hi) (fun _ _ => rfl) (by rw [bw_P h, bw_P h]; rfl)
  have e1 : bw g q (va_up C b S1) N b = wP g (q b) S1 := by rw [bw_P h, up_s]
  have e2 : bw g q C N b = wP g (q b) (C b) := bw_P h
  rw [e1] at k
  rw [e2] at k ⊢
  exact k
theorem sCP (h : isP b) (S1 : Bun) : Sub (wC g q (C, N)) (wP g (q b) (C b)) (wC g q (va_up C b S1, N)) (wP g (q b) S1) := (sCatP h S1).sub
theorem sCF (h : isF b) (S1 : Bun) : Sub (wC g q (C, N)) (wF g (q b) (C b)) (wC g q (va_up C b S1, N)) (wF g (q b) S1) := by
  have k := (sCA (g := g) (q := q) (C := C) (N := N) (ltF h) (C1 := va_up C b S1) (N1 := N) (fun i hi => up_o hi) (fun _ _ => rfl) (by rw [bw_F h, bw_F h]; rfl)).sub
  rw [bw_F h, bw_F h, up_s] at k
  exact k
theorem sCH (h : isH b) (u9 : Bun × Lon) : Sub (wC g q (C, N)) (wH g (q b) (C b, N b)) (wC g q (va_up C b u9.1, va_up N b u9.2)) (wH g (q b) u9) := by
  have k := (sCA (g := g) (q := q) (C := C) (N := N) (ltH h) (C1 := va_up C b u9.1) (N1 := va_up N b u9.2) (fun i hi => up_o hi) (fun i hi => up_o hi) (by rw [bw_H h, bw_H h]; rfl)).sub
  rw [bw_H h, bw_H h, up_s, up_s] at k
  exact k
theorem sCatT (S1 : Bun) : SubAt (List.range' (fst (bw g q C N) 4) (bw g q C N 4).length) (wC g q (C, N)) (wT g (q 4) (C 4)) (wC g q (va_up C 4 S1, N)) (wT g (q 4) S1) := sCA (b := 4) (by decide) (fun i hi => up_o hi) (fun _ _ => rfl) rfl
theorem sCT (S1 : Bun) : Sub (wC g q (C, N)) (wT g (q 4) (C 4)) (wC g q (va_up C 4 S1, N)) (wT g (q 4) S1) := (sCatT S1).sub
theorem sCR (S1 : Bun) : Sub (wC g q (C, N)) (wR g (q 5) (C 5)) (wC g q (va_up C 5 S1, N)) (wR g (q 5) S1) := (sCA (g := g) (q := q) (C := C) (N := N) (b := 5) (C1 := va_up C 5 S1) (N1 := N) (by decide) (fun i hi => up_o hi) (fun _ _ => rfl) rfl).sub
theorem bw_len (C1 : Nat → Bun) (N1 : Nat → Lon) (i : Nat) : (bw g q C1 N1 i).length = (bw g q C N i).length := by
  unfold bw
  by_cases h0 : i = 0
  · rw [if_pos h0, if_pos h0]; rfl
  rw [if_neg h0, if_neg h0]
  by_cases h1 : i ≤ 3
  · rw [if_pos h1, if_pos h1]; rfl
  rw [if_neg h1, if_neg h1]
  by_cases h2 : i = 4
  · rw [if_pos h2, if_pos h2]; rfl
  rw [if_neg h2, if_neg h2]
  by_cases h3 : i = 5
  · rw [if_pos h3, if_pos h3]; rfl
  rw [if_neg h3, if_neg h3]
  by_cases h4 : i = 6
  · rw [if_pos h4, if_pos h4]; rfl
  rw [if_neg h4, if_neg h4]
  by_cases h5 : i ≤ 10
  · rw [if_pos h5, if_pos h5]; rfl
  rw [if_neg h5, if_neg h5]; rfl
theorem sCPP (h : isP b) (h2 : isP b2) (hne : b ≠ b2) (u9 : Bun × Bun) : Sub (wC g q (C, N)) (wPP g (q b) (q b2) (C b, C b2)) (wC g q (va_up (va_up C b u9.1) b2 u9.2, N)) (wPP g (q b) (q b2) u9) := by
  have k1 := sCatP (g := g) (q := q) (C := C) (N := N) h u9.1
  have k2 := sCatP (g := g) (q := q) (C := va_up C b u9.1) (N := N) h2 u9.2
  have e : va_up C b u9.1 b2 = C b2 := up_o (Ne.symm hne)
  rw [e] at k2
  have d := fm_dis (bw g q C N) hne
  rw [← bw_len (g := g) (q := q) (C := C) (N := N) (va_up C b u9.1) N b2, ← fst_same (f := bw g q C N) (f' := bw g q (va_up C b u9.1) N) (fun i => bw_len _ _ i) b2] at d
  exact (k1.two k2 d).sub
theorem sC1PP (h : isP b) (h2 : isP b2) (hne : b ≠ b2) : Sub1 (wC g q (C, N)) (wPP g (q b) (q b2) (C b, C b2)) := by
  have k1 := sCatP (g := g) (q := q) (C := C) (N := N) h (C b)
  have k2 := sCatP (g := g) (q := q) (C := C) (N := N) h2 (C b2)
  refine ⟨List.range' (fst (bw g q C N) b) (bw g q C N b).length ++ List.range' (fst (bw g q C N) b2) (bw g q C N b2).length, ?_, ?_⟩
  · rw [nd_iff, List.nodup_append]
    refine ⟨(nd_iff _).mp (nd_range' _ _), (nd_iff _).mp (nd_range' _ _), fun x hx y hy e => ?_⟩
    subst e
    exact fm_dis (bw g q C N) hne x hx hy
  · show _ = (wP g (q b) (C b) ++ wP g (q b2) (C b2)).map some
    rw [List.map_append, List.map_append, k1.1, k2.1]
theorem sCTP (u9 : Bun × Bun) : Sub (wC g q (C, N)) (wTP g (q 4) (q 3) (C 4, C 3)) (wC g q (va_up (va_up C 4 u9.1) 3 u9.2, N)) (wTP g (q 4) (q 3) u9) := by
  have h2 : isP 3 := ⟨by decide, by decide⟩
  have k1 := sCatT (g := g) (q := q) (C := C) (N := N) u9.1
  have k2 := sCatP (g := g) (q := q) (C := va_up C 4 u9.1) (N := N) h2 u9.2
  have e : va_up C 4 u9.1 3 = C 3 := up_o (by decide)
  rw [e] at k2
  have d := fm_dis (bw g q C N) (a := 4) (b := 3) (by decide)
  rw [← bw_len (g := g) (q := q) (C := C) (N := N) (va_up C 4 u9.1) N 3, ← fst_same (f := bw g q C N) (f' := bw g q (va_up C 4 u9.1) N) (fun i => bw_len _ _ i) 3] at d
  exact (k1.two k2 d).sub
theorem sC1TP : Sub1 (wC g q (C, N)) (wTP g (q 4) (q 3) (C 4, C 3)) := by
  have h2 : isP 3 := ⟨by decide, by decide⟩
  have k1 := sCatT (g := g) (q := q) (C := C) (N := N) (C 4)
  have k2 := sCatP (g := g) (q := q) (C := C) (N := N) h2 (C 3)
  refine ⟨List.range' (fst (bw g q C N) 4) (bw g q C N 4).length ++ List.range' (fst (bw g q C N) 3) (bw g q C N 3).length, ?_, ?_⟩
  · rw [nd_iff, List.nodup_append]
    refine ⟨(nd_iff _).mp (nd_range' _ _), (nd_iff _).mp (nd_range' _ _), fun x hx y hy e => ?_⟩
    subst e
    exact fm_dis (bw g q C N) (by decide) x hx hy
  · show _ = (wT g (q 4) (C 4) ++ wP g (q 3) (C 3)).map some
    rw [List.map_append, List.map_append, k1.1, k2.1]
theorem wC_map (C1 : Nat → Bun) (N1 : Nat → Lon) : (wC g q (C1, N1)).map (fun q => q.1) = (wC g q (C, N)).map (fun q => q.1) := by
  unfold wC
  rw [List.map_flatMap, List.map_flatMap]
  congr 1
  funext i
  unfold bw
  by_cases h0 : i = 0
  · rw [if_pos h0, if_pos h0]; rfl
  rw [if_neg h0, if_neg h0]
  by_cases h1 : i ≤ 3
  · rw [if_pos h1, if_pos h1]; rfl
  rw [if_neg h1, if_neg h1]
  by_cases h2 : i = 4
  · rw [if_pos h2, if_pos h2]; rfl
  rw [if_neg h2, if_neg h2]
  by_cases h3 : i = 5
  · rw [if_pos h3, if_pos h3]; rfl
  rw [if_neg h3, if_neg h3]
  by_cases h4 : i = 6
  · rw [if_pos h4, if_pos h4]; rfl
  rw [if_neg h4, if_neg h4]
  by_cases h5 : i ≤ 10
  · rw [if_pos h5, if_pos h5]; rfl
  rw [if_neg h5, if_neg h5]; rfl
theorem isH_of {i : Int32} (h : vp_in i 4) : isH (i.toNatClampNeg + 7) := by
  obtain ⟨j, hj, rfl⟩ := vp_in_of h (by decide)
  rw [nI_clamp (by omega)]
  exact ⟨by omega, by omega⟩
theorem isF_of {i : Int32} (h : vp_in i 36) : isF (i.toNatClampNeg + 11) := by
  obtain ⟨j, hj, rfl⟩ := vp_in_of h (by decide)
  rw [nI_clamp (by omega)]
  exact Or.inr ⟨by omega, by omega⟩
theorem isF6 : isF 6 := Or.inl rfl
theorem isP1 : isP 1 := ⟨by decide, by decide⟩
theorem isP2 : isP 2 := ⟨by decide, by decide⟩
theorem isP3 : isP 3 := ⟨by decide, by decide⟩
end
