/-! FURROWS AS LISTS OF NODES: a node is (cells, way, turns) -/
section
abbrev Nod : Type := Nat × (Nat → Nat) × Nat
def dirN (i : Nat) : Nat := if i = 0 then 0 else if i = 1 then 3 else if i = 2 then 1 else 2
theorem dir_lt (i : Nat) : dirN i < 4 := by
  unfold dirN
  split
  · decide
  · split
    · decide
    · split <;> decide
def delN (L x : Nat) : Nat := L &&& (65535 ^^^ 2 ^ x)
theorem hi_bit {L k : Nat} (hL : L < 65536) (hk : 16 ≤ k) : L.testBit k = false := Nat.testBit_lt_two_pow (Nat.lt_of_lt_of_le hL (Nat.pow_le_pow_right (n := 2) (by decide) hk))
theorem bit_hi {L k : Nat} (hL : L < 65536) (h : L.testBit k = true) : k < 16 := by
  rcases Nat.lt_or_ge k 16 with h' | h'
  · exact h'
  · rw [hi_bit hL h'] at h; exact absurd h (by decide)
theorem del_bit {L x k : Nat} (hL : L < 65536) : (delN L x).testBit k = if k = x then false else L.testBit k := by
  unfold delN
  rw [Nat.testBit_and, Nat.testBit_xor, Nat.testBit_two_pow]
  by_cases hk : k < 16
  · have e : (65535 : Nat).testBit k = true := (show ∀ k, k < 16 → (65535 : Nat).testBit k = true by decide) k hk
    rw [e]
    by_cases h : k = x
    · rw [if_pos h, decide_eq_true h.symm]; simp
    · rw [if_neg h, decide_eq_false (fun z => h z.symm)]; simp
  · rw [hi_bit hL (by omega), Bool.false_and]; simp
theorem del_lt {L x : Nat} (h : L < 65536) : delN L x < 65536 := Nat.lt_of_le_of_lt Nat.and_le_left h
theorem del_I {L x : Nat} (hL : L < 65536) (hx : x < 16) : nI L &&& (((1 : Int32) <<< (nI x &&& 31)) ^^^ (-1)) = nI (delN L x) := by
  show nI L &&& (bitI x ^^^ (-1)) = _
  refine b_ext (fun i hi => ?_)
  rw [b_and, b_xor, b_m1 i hi, bitI_b hx hi, bt_nI hi, bt_nI hi, del_bit hL]
  by_cases h : i = x
  · rw [if_pos h, decide_eq_true h]; simp
  · rw [if_neg h, decide_eq_false h]; simp
/-- how many -/
def cdN (L : Nat) : Nat := fb_ct (fun k => L.testBit k) 16
def ctN (q : Nat → Bool) (L : Nat) : Nat := fb_ct (fun k => L.testBit k && q k) 16
def bN (b : Bool) : Nat := if b then 1 else 0
theorem bN_le (b : Bool) : bN b ≤ 1 := by cases b <;> decide
theorem del_ct (q : Nat → Bool) {L x : Nat} (hL : L < 65536) (hx : x < 16) (h : L.testBit x = true) : ctN q (delN L x) + bN (q x) = ctN q L := by
  have u := fb_ct_upd (fun k => L.testBit k && q k) false (i := x) (n := 16) hx
  have e : fb_ct (fun k => if k = x then false else (fun k => L.testBit k && q k) k) 16 = ctN q (delN L x) := by
    refine fb_ct_cong (fun k hk => ?_)
    rw [del_bit hL]
    by_cases hk : k = x
    · rw [if_pos hk, if_pos hk, Bool.false_and]
    · rw [if_neg hk, if_neg hk]
  rw [e] at u
  show ctN q (delN L x) + (if q x = true then 1 else 0) = ctN q L
  rw [h, Bool.true_and] at u
  have e3 : (if (false : Bool) = true then 1 else 0) = 0 := rfl
  rw [e3] at u
  exact u
theorem cd_ct (L : Nat) : cdN L = ctN (fun _ => true) L := fb_ct_cong (fun k _ => by rw [Bool.and_true])
theorem del_cd {L x : Nat} (hL : L < 65536) (hx : x < 16) (h : L.testBit x = true) : cdN (delN L x) + 1 = cdN L := by
  rw [cd_ct, cd_ct]; exact del_ct (fun _ => true) hL hx h
theorem del_A {L x : Nat} (hL : L < 65536) (hx : x < 16) (h : L.testBit x = true) : colA (delN L x) 16 + bN (evB x) = colA L 16 := del_ct evB hL hx h
theorem del_B {L x : Nat} (hL : L < 65536) (hx : x < 16) (h : L.testBit x = true) : colB (delN L x) 16 + bN (!evB x) = colB L 16 := del_ct (fun k => !evB k) hL hx h
theorem cd_le (L : Nat) : cdN L ≤ 16 := fb_ct_le _ _
theorem cd_0 {L : Nat} (hL : L < 65536) (h : cdN L = 0) : L = 0 := by
  have z := fb_ct_zero.mp h
  refine Nat.eq_of_testBit_eq (fun k => ?_)
  rw [Nat.zero_testBit]
  rcases Nat.lt_or_ge k 16 with hk | hk
  · exact z k hk
  · exact hi_bit hL hk
theorem cd_z : cdN 0 = 0 := by decide
theorem cd_AB (L : Nat) : cdN L = colA L 16 + colB L 16 := by
  have : ∀ n, fb_ct (fun k => L.testBit k) n = colA L n + colB L n := by
    intro n
    induction n with
    | zero => rfl
    | succ n ih =>
      show fb_ct (fun k => L.testBit k) n + (if L.testBit n = true then 1 else 0) = (colA L n + (if (L.testBit n && evB n) = true then 1 else 0)) + (colB L n + (if (L.testBit n && !evB n) = true then 1 else 0))
      rw [ih]
      cases L.testBit n <;> cases evB n <;> simp <;> omega
  exact this 16
def catTo {α : Type} (g : Nat → List α) : Nat → List α
  | 0 => []
  | n + 1 => catTo g n ++ g n
theorem mem_cat {α : Type} {g : Nat → List α} {m : α} : ∀ {n : Nat}, m ∈ catTo g n → ∃ i, i < n ∧ m ∈ g i
  | 0, h => by cases h
  | n + 1, h => by
    rcases List.mem_append.mp h with h | h
    · obtain ⟨i, hi, hm⟩ := mem_cat h
      exact ⟨i, by omega, hm⟩
    · exact ⟨n, by omega, h⟩
theorem cat_mem {α : Type} {g : Nat → List α} {m : α} : ∀ {n i : Nat}, i < n → m ∈ g i → m ∈ catTo g n
  | 0, i, h, _ => absurd h (by omega)
  | n + 1, i, h, hm => by
    by_cases e : i = n
    · subst e; exact List.mem_append.mpr (Or.inr hm)
    · exact List.mem_append.mpr (Or.inl (cat_mem (by omega) hm))
theorem cat_cong {α : Type} {g h : Nat → List α} : ∀ {n : Nat}, (∀ i, i < n → g i = h i) → catTo g n = catTo h n
  | 0, _ => rfl
  | n + 1, e => by
    show catTo g n ++ g n = catTo h n ++ h n
    rw [cat_cong (fun i hi => e i (by omega)), e n (by omega)]
theorem cat_nil {α : Type} {g : Nat → List α} : ∀ {n : Nat}, (∀ i, i < n → g i = []) → catTo g n = []
  | 0, _ => rfl
  | n + 1, e => by
    show catTo g n ++ g n = []
    rw [cat_nil (fun i hi => e i (by omega)), e n (by omega)]; rfl
theorem cat_filter {α : Type} {g : Nat → List α} (p : α → Bool) : ∀ n : Nat, (catTo g n).filter p = catTo (fun i => (g i).filter p) n
  | 0 => rfl
  | n + 1 => by
    show (catTo g n ++ g n).filter p = catTo (fun i => (g i).filter p) n ++ (g n).filter p
    rw [List.filter_append, cat_filter p n]
def nxt (K B L c : Nat) (b : Option Nat) (t : Bool) (i : Nat) : Option Nat := match nbN c (dirN i) with
  | none => none
  | some x => if L.testBit x && mayN K (B.testBit x) b (dirN i) t then some x else none
def ext (w : Nat → Nat) (n x : Nat) : Nat → Nat := fun k => if k = n then x else w k
theorem ext_n (w : Nat → Nat) (n x : Nat) : ext w n x n = x := if_pos rfl
theorem ext_o {w : Nat → Nat} {n x k : Nat} (h : k ≠ n) : ext w n x k = w k := if_neg h
def nds (K B : Nat) : Nat → Nat → (Nat → Nat) → Nat → Nat → Option Nat → Bool → Nat → List Nod
  | 0 => fun _ _ _ _ _ _ _ => []
  | d + 1 => fun n w L c b t tu => (n, w, tu) :: catTo (fun i => match nxt K B L c b t i with
      | none => []
      | some x => nds K B d (n + 1) (ext w n x) (delN L x) x (some (dirN i)) (turnN b (dirN i)) (tu + bN (turnN b (dirN i)))) 4
def kid (K B d n : Nat) (w : Nat → Nat) (L c : Nat) (b : Option Nat) (t : Bool) (tu i : Nat) : List Nod := match nxt K B L c b t i with
  | none => []
  | some x => nds K B d (n + 1) (ext w n x) (delN L x) x (some (dirN i)) (turnN b (dirN i)) (tu + bN (turnN b (dirN i)))
variable {K B d n L c tu : Nat} {w : Nat → Nat} {b : Option Nat} {t : Bool}
theorem nds_succ : nds K B (d + 1) n w L c b t tu = (n, w, tu) :: catTo (kid K B d n w L c b t tu) 4 := rfl
theorem kid_none {i : Nat} (h : nxt K B L c b t i = none) : kid K B d n w L c b t tu i = [] := by unfold kid; rw [h]
theorem kid_some {i x : Nat} (h : nxt K B L c b t i = some x) : kid K B d n w L c b t tu i = nds K B d (n + 1) (ext w n x) (delN L x) x (some (dirN i)) (turnN b (dirN i)) (tu + bN (turnN b (dirN i))) := by unfold kid; rw [h]
theorem nxt_s {i x : Nat} (h : nxt K B L c b t i = some x) : nbN c (dirN i) = some x ∧ L.testBit x = true ∧ mayN K (B.testBit x) b (dirN i) t = true := by
  unfold nxt at h
  cases e : nbN c (dirN i) with
  | none => rw [e] at h; cases h
  | some y =>
    rw [e] at h
    cases hb : (L.testBit y && mayN K (B.testBit y) b (dirN i) t) with
    | false => simp [hb] at h
    | true =>
      simp [hb] at h
      subst h
      rw [Bool.and_eq_true] at hb
      exact ⟨rfl, hb.1, hb.2⟩
theorem nxt_0 {i : Nat} (h : L = 0) : nxt K B L c b t i = none := by
  unfold nxt
  cases nbN c (dirN i) with
  | none => rfl
  | some y => subst h; simp
theorem mem_kid {i : Nat} {m : Nod} (h : m ∈ kid K B d n w L c b t tu i) : ∃ x, nxt K B L c b t i = some x ∧ m ∈ nds K B d (n + 1) (ext w n x) (delN L x) x (some (dirN i)) (turnN b (dirN i)) (tu + bN (turnN b (dirN i))) := by
  unfold kid at h
  cases e : nxt K B L c b t i with
  | none => rw [e] at h; cases h
  | some x => rw [e] at h; exact ⟨x, rfl, h⟩
theorem mem_nds {m : Nod} (h : m ∈ nds K B (d + 1) n w L c b t tu) : m = (n, w, tu) ∨ ∃ i x, i < 4 ∧ nxt K B L c b t i = some x ∧ m ∈ nds K B d (n + 1) (ext w n x) (delN L x) x (some (dirN i)) (turnN b (dirN i)) (tu + bN (turnN b (dirN i))) := by
  rw [nds_succ] at h
  rcases List.mem_cons.mp h with h | h
  · exact Or.inl h
  · obtain ⟨i, hi, hm⟩ := mem_cat h
    obtain ⟨x, hx, hm⟩ := mem_kid hm
    exact Or.inr ⟨i, x, hi, hx, hm⟩
/-- what a way is -/
theorem nds_path : ∀ (d n : Nat) (w : Nat → Nat) (L c : Nat) (b : Option Nat) (t : Bool) (tu : Nat), L < 65536 → 1 ≤ n → w (n - 1) = c → ∀ m ∈ nds K B d n w L c b t tu, n ≤ m.1 ∧ (∀ k, k < n → m.2.1 k = w k) ∧ (∀ k, n ≤ k → k < m.1 → L.testBit (m.2.1 k) = true ∧ (∃ dd, dd < 4 ∧ nbN (m.2.1 (k - 1)) dd = some (m.2.1 k)) ∧ ∀ j, n ≤ j → j < k → m.2.1 j ≠ m.2.1 k) := by
  intro d
  induction d with
  | zero => intro n w L c b t tu _ _ _ m hm; cases hm
  | succ d ih =>
    intro n w L c b t tu hL hn hc m hm
    rcases mem_nds hm with rfl | ⟨i, x, hi, hx, hm⟩
    · exact ⟨Nat.le_refl _, fun _ _ => rfl, fun k h1 h2 => absurd h2 (Nat.not_lt.mpr h1)⟩
    · obtain ⟨hb, hl, _⟩ := nxt_s hx
      obtain ⟨h1, h2, h3⟩ := ih (n + 1) (ext w n x) (delN L x) x _ _ _ (del_lt hL) (by omega) (ext_n w n x) m hm
      have mn : m.2.1 n = x := by rw [h2 n (by omega), ext_n]
      have mk : ∀ k, k < n → m.2.1 k = w k := fun k hk => by rw [h2 k (by omega), ext_o (by omega)]
      refine ⟨by omega, mk, fun k k1 k2 => ?_⟩
      by_cases e : k = n
      · subst e
        rw [mn]
        refine ⟨hl, ⟨dirN i, dir_lt i, ?_⟩, fun j j1 j2 => absurd j2 (by omega)⟩
        rw [mk (k - 1) (by omega), hc]; exact hb
      · obtain ⟨g1, g2, g3⟩ := h3 k (by omega) k2
        rw [del_bit hL] at g1
        by_cases ex : m.2.1 k = x
        · rw [if_pos ex] at g1; exact absurd g1 (by decide)
        · rw [if_neg ex] at g1
          refine ⟨g1, g2, fun j j1 j2 => ?_⟩
          by_cases ej : j = n
          · subst ej; rw [mn]; exact fun z => ex z.symm
          · exact g3 j (by omega) j2
theorem nds_cov : ∀ (d n : Nat) (w : Nat → Nat) (L c : Nat) (b : Option Nat) (t : Bool) (tu : Nat), L < 65536 → 1 ≤ n → w (n - 1) = c → ∀ m ∈ nds K B d n w L c b t tu, m.1 = n + cdN L → ∀ y, L.testBit y = true → ∃ k, n ≤ k ∧ k < m.1 ∧ m.2.1 k = y := by
  intro d
  induction d with
  | zero => intro n w L c b t tu _ _ _ m hm; cases hm
  | succ d ih =>
    intro n w L c b t tu hL hn hc m hm hM y hy
    rcases mem_nds hm with rfl | ⟨i, x, hi, hx, hm⟩
    · have : cdN L = 0 := by
        have : n = n + cdN L := hM
        omega
      rw [cd_0 hL this, Nat.zero_testBit] at hy
      exact absurd hy (by decide)
    · obtain ⟨hb, hl, _⟩ := nxt_s hx
      have cd := del_cd hL (bit_hi hL hl) hl
      obtain ⟨h1, h2, h3⟩ := nds_path d (n + 1) (ext w n x) (delN L x) x _ _ _ (del_lt hL) (by omega) (ext_n w n x) m hm
      by_cases e : y = x
      · subst e
        exact ⟨n, by omega, by omega, by rw [h2 n (by omega), ext_n]⟩
      · obtain ⟨k, k1, k2, k3⟩ := ih (n + 1) (ext w n x) (delN L x) x _ _ _ (del_lt hL) (by omega) (ext_n w n x) m hm (by omega) y (by rw [del_bit hL, if_neg e]; exact hy)
        exact ⟨k, by omega, k2, k3⟩
theorem nb_ev {c d x : Nat} (hc : c < 16) (hd : d < 4) (h : nbN c d = some x) : evB x = !evB c := by
  have : ∀ c, c < 16 → ∀ d, d < 4 → (match nbN c d with | none => true | some x => (evB x == !evB c)) = true := by decide
  have := this c hc d hd
  rw [h] at this
  exact eq_of_beq this
/-- colours along a way -/
theorem nds_col : ∀ (d n : Nat) (w : Nat → Nat) (L c : Nat) (b : Option Nat) (t : Bool) (tu : Nat), L < 65536 → c < 16 → 1 ≤ n → w (n - 1) = c → ∀ m ∈ nds K B d n w L c b t tu, ∃ a e : Nat, a ≤ colA L 16 ∧ e ≤ colB L 16 ∧ m.1 = n + a + e ∧ (evB c = true → (e = a ∧ evB (m.2.1 (m.1 - 1)) = true) ∨ (e = a + 1 ∧ evB (m.2.1 (m.1 - 1)) = false)) ∧ (evB c = false → (a = e ∧ evB (m.2.1 (m.1 - 1)) = false) ∨ (a = e + 1 ∧ evB (m.2.1 (m.1 - 1)) = true)) := by
  intro d
  induction d with
  | zero => intro n w L c b t tu _ _ _ _ m hm; cases hm
  | succ d ih =>
    intro n w L c b t tu hL hc16 hn hc m hm
    rcases mem_nds hm with rfl | ⟨i, x, hi, hx, hm⟩
    · refine ⟨0, 0, by omega, by omega, rfl, fun h => Or.inl ⟨rfl, ?_⟩, fun h => Or.inl ⟨rfl, ?_⟩⟩
      · show evB (w (n - 1)) = true
        rw [hc]; exact h
      · show evB (w (n - 1)) = false
        rw [hc]; exact h
    · obtain ⟨hb, hl, _⟩ := nxt_s hx
      have hx16 := bit_hi hL hl
      have ea := del_A hL hx16 hl
      have eb := del_B hL hx16 hl
      have ev := nb_ev hc16 (dir_lt i) hb
      obtain ⟨a, e, h1, h2, h3, h4, h5⟩ := ih (n + 1) (ext w n x) (delN L x) x _ _ _ (del_lt hL) hx16 (by omega) (ext_n w n x) m hm
      cases hv : evB c with
      | true =>
        rw [hv] at ev
        rw [ev] at ea eb h4 h5
        have ea' : colA (delN L x) 16 + 0 = colA L 16 := ea
        have eb' : colB (delN L x) 16 + 1 = colB L 16 := eb
        refine ⟨a, e + 1, by omega, by omega, by omega, fun _ => ?_, fun z => absurd z (by decide)⟩
        rcases h5 rfl with ⟨q1, q2⟩ | ⟨q1, q2⟩
        · exact Or.inr ⟨by omega, q2⟩
        · exact Or.inl ⟨by omega, q2⟩
      | false =>
        rw [hv] at ev
        rw [ev] at ea eb h4 h5
        have ea' : colA (delN L x) 16 + 1 = colA L 16 := ea
        have eb' : colB (delN L x) 16 + 0 = colB L 16 := eb
        refine ⟨a + 1, e, by omega, by omega, by omega, fun z => absurd z (by decide), fun _ => ?_⟩
        rcases h4 rfl with ⟨q1, q2⟩ | ⟨q1, q2⟩
        · exact Or.inr ⟨by omega, q2⟩
        · exact Or.inl ⟨by omega, q2⟩
/-- turns are fewer than cells -/
theorem nds_tu : ∀ (d n : Nat) (w : Nat → Nat) (L c : Nat) (b : Option Nat) (t : Bool) (tu : Nat), L < 65536 → tu < n → ∀ m ∈ nds K B d n w L c b t tu, m.2.2 < m.1 ∧ m.1 ≤ n + cdN L := by
  intro d
  induction d with
  | zero => intro n w L c b t tu _ _ m hm; cases hm
  | succ d ih =>
    intro n w L c b t tu hL ht m hm
    rcases mem_nds hm with rfl | ⟨i, x, hi, hx, hm⟩
    · exact ⟨ht, Nat.le_add_right _ _⟩
    · obtain ⟨hb, hl, _⟩ := nxt_s hx
      have cd := del_cd hL (bit_hi hL hl) hl
      have := bN_le (turnN b (dirN i))
      have := ih (n + 1) (ext w n x) (delN L x) x _ _ _ (del_lt hL) (by omega) m hm
      exact ⟨this.1, by omega⟩
/-- whole ones -/
def okO (o : Option Nat) (m : Nod) : Bool := match o with
  | none => true
  | some g => m.2.1 (m.1 - 1) == g
def whl (M : Nat) (o : Option Nat) (m : Nod) : Bool := m.1 == M && okO o m
def wls (K B M : Nat) (o : Option Nat) (d n : Nat) (w : Nat → Nat) (L c : Nat) (b : Option Nat) (t : Bool) (tu : Nat) : List Nod := (nds K B d n w L c b t tu).filter (whl M o)
def wkd (K B M : Nat) (o : Option Nat) (d n : Nat) (w : Nat → Nat) (L c : Nat) (b : Option Nat) (t : Bool) (tu : Nat) (i : Nat) : List Nod := (kid K B d n w L c b t tu i).filter (whl M o)
variable {M : Nat} {o : Option Nat}
theorem wls_pos (hM : n + cdN L = M) (hL : L < 65536) (h0 : L ≠ 0) : wls K B M o (d + 1) n w L c b t tu = catTo (wkd K B M o d n w L c b t tu) 4 := by
  unfold wls
  rw [nds_succ]
  have : whl M o (n, w, tu) = false := by
    have hne : n ≠ M := fun z => h0 (cd_0 hL (by omega))
    show ((n == M) && _) = false
    rw [beq_eq_false_iff_ne.mpr hne, Bool.false_and]
  rw [List.filter_cons_of_neg (by rw [this]; decide), cat_filter]
  rfl
theorem wls_0 (hM : n + cdN L = M) (h0 : L = 0) : wls K B M o (d + 1) n w L c b t tu = if okO o (n, w, tu) then [(n, w, tu)] else [] := by
  unfold wls
  rw [nds_succ, cat_nil (fun i _ => kid_none (nxt_0 h0))]
  have hn : n = M := by rw [h0, cd_z] at hM; exact hM
  have : whl M o (n, w, tu) = okO o (n, w, tu) := by
    show ((n == M) && _) = _
    rw [hn, beq_self_eq_true, Bool.true_and]
  rw [List.filter_cons, this]
  rfl
theorem nb_back {c x i : Nat} (hc : c < 16) (hi : i < 4) (h : nbN c (dirN i) = some x) : ∃ j, j < 4 ∧ nbN x (dirN j) = some c := by
  have : ∀ c, c < 16 → ∀ i, i < 4 → (match nbN c (dirN i) with | none => true | some x => (nbN x (dirN 0) == some c || nbN x (dirN 1) == some c) || (nbN x (dirN 2) == some c || nbN x (dirN 3) == some c)) = true := by decide
  have := this c hc i hi
  rw [h] at this
  have q : ((nbN x (dirN 0) == some c || nbN x (dirN 1) == some c) || (nbN x (dirN 2) == some c || nbN x (dirN 3) == some c)) = true := this
  rw [Bool.or_eq_true, Bool.or_eq_true, Bool.or_eq_true] at q
  rcases q with (q | q) | (q | q)
  · exact ⟨0, by decide, eq_of_beq q⟩
  · exact ⟨1, by decide, eq_of_beq q⟩
  · exact ⟨2, by decide, eq_of_beq q⟩
  · exact ⟨3, by decide, eq_of_beq q⟩
/-- how many there can be -/
theorem wls_len : ∀ (d n : Nat) (w : Nat → Nat) (L c : Nat) (b : Option Nat) (t : Bool) (tu : Nat), L < 65536 → c < 16 → n + cdN L = M → L.testBit c = false → (∃ j, j < 4 ∧ ∀ y, nbN c (dirN j) = some y → L.testBit y = false) → (wls K B M o d n w L c b t tu).length ≤ 3 ^ cdN L := by
  intro d
  induction d with
  | zero => intro n w L c b t tu _ _ _ _ _; exact Nat.zero_le _
  | succ d ih =>
    intro n w L c b t tu hL hc hM hcL hback
    by_cases h0 : L = 0
    · rw [wls_0 hM h0, h0, cd_z]
      split
      · exact Nat.le_refl 1
      · exact Nat.zero_le _
    · rw [wls_pos hM hL h0]
      obtain ⟨q, hq⟩ : ∃ q, cdN L = q + 1 := by
        have : cdN L ≠ 0 := fun z => h0 (cd_0 hL z)
        exact ⟨cdN L - 1, by omega⟩
      have one : ∀ i, i < 4 → (wkd K B M o d n w L c b t tu i).length ≤ 3 ^ q := by
        intro i hi
        unfold wkd
        cases hx : nxt K B L c b t i with
        | none => rw [kid_none hx]; exact Nat.zero_le _
        | some x =>
          rw [kid_some hx]
          obtain ⟨hb, hl, _⟩ := nxt_s hx
          have cd := del_cd hL (bit_hi hL hl) hl
          have e : cdN (delN L x) = q := by omega
          rw [← e]
          obtain ⟨j, hj, hbk⟩ := nb_back hc hi hb
          refine ih (n + 1) (ext w n x) (delN L x) x _ _ _ (del_lt hL) (bit_hi hL hl) (by omega) (by rw [del_bit hL, if_pos rfl]) ⟨j, hj, fun y hy => ?_⟩
          rw [hbk] at hy
          cases hy
          rw [del_bit hL, hcL]
          split <;> rfl
      obtain ⟨j, hj, hjn⟩ := hback
      have zero : wkd K B M o d n w L c b t tu j = [] := by
        unfold wkd
        have : nxt K B L c b t j = none := by
          cases hx : nxt K B L c b t j with
          | none => rfl
          | some x =>
            obtain ⟨hb, hl, _⟩ := nxt_s hx
            rw [hjn x hb] at hl
            exact absurd hl (by decide)
        rw [kid_none this]; rfl
      have len : (catTo (wkd K B M o d n w L c b t tu) 4).length = (wkd K B M o d n w L c b t tu 0).length + (wkd K B M o d n w L c b t tu 1).length + (wkd K B M o d n w L c b t tu 2).length + (wkd K B M o d n w L c b t tu 3).length := by
        show (((([] ++ _) ++ _) ++ _) ++ _ : List Nod).length = _
        rw [List.length_append, List.length_append, List.length_append, List.nil_append]
      rw [len, hq, Nat.pow_succ]
      have o0 := one 0 (by decide)
      have o1 := one 1 (by decide)
      have o2 := one 2 (by decide)
      have o3 := one 3 (by decide)
      match j, hj, zero with
      | 0, _, z => rw [z]; simp only [List.length_nil]; omega
      | 1, _, z => rw [z]; simp only [List.length_nil]; omega
      | 2, _, z => rw [z]; simp only [List.length_nil]; omega
      | 3, _, z => rw [z]; simp only [List.length_nil]; omega
theorem wls_len0 (hL : L < 65536) (hc : c < 16) (hM : n + cdN L = M) (hcL : L.testBit c = false) (hcd : cdN L ≤ 15) : (wls K B M o d n w L c b t tu).length ≤ 19131876 := by
  cases d with
  | zero => exact Nat.zero_le _
  | succ d =>
    by_cases h0 : L = 0
    · rw [wls_0 hM h0]
      split
      · exact (by decide : 1 ≤ 19131876)
      · exact Nat.zero_le _
    · rw [wls_pos hM hL h0]
      have one : ∀ i, i < 4 → (wkd K B M o d n w L c b t tu i).length ≤ 4782969 := by
        intro i hi
        unfold wkd
        cases hx : nxt K B L c b t i with
        | none => rw [kid_none hx]; exact Nat.zero_le _
        | some x =>
          rw [kid_some hx]
          obtain ⟨hb, hl, _⟩ := nxt_s hx
          have cd := del_cd hL (bit_hi hL hl) hl
          obtain ⟨j, hj, hbk⟩ := nb_back hc hi hb
          have := wls_len (K := K) (B := B) (M := M) (o := o) d (n + 1) (ext w n x) (delN L x) x (some (dirN i)) (turnN b (dirN i)) (tu + bN (turnN b (dirN i))) (del_lt hL) (bit_hi hL hl) (by omega) (by rw [del_bit hL, if_pos rfl]) ⟨j, hj, fun y hy => by
            rw [hbk] at hy
            cases hy
            rw [del_bit hL, hcL]
            split <;> rfl⟩
          refine Nat.le_trans this (Nat.le_trans (Nat.pow_le_pow_right (by decide) (by omega : cdN (delN L x) ≤ 14)) (by decide))
      have len : (catTo (wkd K B M o d n w L c b t tu) 4).length = (wkd K B M o d n w L c b t tu 0).length + (wkd K B M o d n w L c b t tu 1).length + (wkd K B M o d n w L c b t tu 2).length + (wkd K B M o d n w L c b t tu 3).length := by
        show (((([] ++ _) ++ _) ++ _) ++ _ : List Nod).length = _
        rw [List.length_append, List.length_append, List.length_append, List.nil_append]
      rw [len]
      have o0 := one 0 (by decide)
      have o1 := one 1 (by decide)
      have o2 := one 2 (by decide)
      have o3 := one 3 (by decide)
      omega
end
