/-! read -/
section
def cellN (v : Int64) : Option Nat := if 0 ≤ v.toInt ∧ v.toInt < 16 then some v.toInt.toNat else none
theorem cellN_lt {v : Int64} {x : Nat} (h : cellN v = some x) : x < 16 ∧ v.toInt = x := by
  unfold cellN at h
  by_cases q : 0 ≤ v.toInt ∧ v.toInt < 16
  · rw [if_pos q] at h
    have := Option.some.inj h
    omega
  · rw [if_neg q] at h; cases h
theorem cell_I {v : Int64} {x : Nat} (h : cellN v = some x) : v.toInt32 = nI x := by
  obtain ⟨h1, h2⟩ := cellN_lt h
  rw [fa_eq, nI_toInt (by omega), Int64.toInt_toInt32, h2]
  exact fb_bmod (by omega) (by omega)
theorem cellOf5 {v : Int64} {post : Int32 → Prop} (h : post (gI (cellN v))) : wX5_cellOf v post := by
  unfold wX5_cellOf
  have e0 : (0 : Int64).toInt = 0 := rfl
  have e16 : (16 : Int64).toInt = 16 := rfl
  have ge : 0 ≤ lg_cmp v 16 ↔ ¬ lg_cmp v 16 < 0 := by rw [fa_le, fa_lt]; omega
  rw [ge, lg_lt, lg_lt, fa_lt64, fa_lt64, e0, e16]
  refine ⟨fun z => ?_, fun z => ⟨fun z2 => ?_, fun z2 => ?_⟩⟩
  · have : cellN v = none := if_neg (by omega)
    rw [this] at h; exact h
  · have : cellN v = none := if_neg (by omega)
    rw [this] at h; exact h
  · have : cellN v = some v.toInt.toNat := if_pos (by omega)
    rw [cell_I this]
    rw [this] at h; exact h
def dirTo (c x : Nat) : Nat → Option Nat
  | 0 => none
  | j + 1 => if nbN c j = some x then some j else dirTo c x j
theorem nb_one {c d e x : Nat} (hc : c < 16) (hd : d < 4) (he : e < 4) (h1 : nbN c d = some x) (h2 : nbN c e = some x) : d = e := by
  have : ∀ c, c < 16 → ∀ d, d < 4 → ∀ e, e < 4 → (d == e || !(nbN c d == nbN c e) || nbN c d == none) = true := by decide
  have := this c hc d hd e he
  rw [h1, h2, beq_self_eq_true, Bool.not_true, Bool.or_false, Bool.or_eq_true] at this
  rcases this with q | q
  · exact eq_of_beq q
  · exact absurd q (by simp)
theorem dirTo_s {c x : Nat} : ∀ {j d : Nat}, dirTo c x j = some d → d < j ∧ nbN c d = some x
  | 0, d, h => by cases h
  | j + 1, d, h => by
    unfold dirTo at h
    by_cases q : nbN c j = some x
    · rw [if_pos q] at h
      obtain rfl := Option.some.inj h
      exact ⟨Nat.lt_succ_self _, q⟩
    · rw [if_neg q] at h
      have := dirTo_s h
      exact ⟨by omega, this.2⟩
theorem dirTo_i {c x : Nat} (hc : c < 16) : ∀ {j d : Nat}, j ≤ 4 → d < j → nbN c d = some x → dirTo c x j = some d
  | 0, d, _, h, _ => absurd h (by omega)
  | j + 1, d, hj, h, e => by
    unfold dirTo
    by_cases q : nbN c j = some x
    · rw [if_pos q, nb_one hc (by omega) (by omega) q e]
    · rw [if_neg q]
      have : d ≠ j := fun z => q (by rw [← z]; exact e)
      exact dirTo_i hc (by omega) (by omega) e
theorem nb_eqI {c d x : Nat} (hc : c < 16) (hd : d < 4) (hx : x < 16) : gI (nbN c d) = nI x ↔ nbN c d = some x := by
  constructor
  · intro h
    exact gI_inj (nb_ok hc hd) (fun g hg => by rw [← Option.some.inj hg]; exact hx) h
  · intro h; rw [h]; rfl
theorem directionTo5 {c x : Nat} (hc : c < 16) (hx : x < 16) {post : Int32 → Prop} (h : post (gI (dirTo c x 4))) : wX5_directionTo (nI c) (nI x) post := by
  unfold wX5_directionTo
  refine wl_up (fun j st => st = nI j ∧ ∀ d, d < j → nbN c d ≠ some x) 4 ?_ (i := 0) (by decide) ⟨rfl, fun d hd => absurd hd (by omega)⟩
  rintro j st KK hj ⟨rfl, k1⟩ hKK
  refine ⟨fun hc4 => ?_, fun hc4 => ?_⟩
  · have := (nI_leI (a := 4) (by decide) (by omega)).mp hc4
    obtain rfl : j = 4 := by omega
    have : dirTo c x 4 = none := by
      cases e : dirTo c x 4 with
      | none => rfl
      | some d => exact absurd (dirTo_s e).2 (k1 d (dirTo_s e).1)
    rw [this] at h; exact h
  · have hlt : j < 4 := by
      rcases Nat.lt_or_ge j 4 with h' | h'
      · exact h'
      · exact absurd (nI_le (a := 4) h' (by omega)) hc4
    refine towards5 hc hlt ?_
    rw [nb_eqI hc hlt hx]
    refine ⟨fun q => ?_, fun q => ?_⟩
    · rw [dirTo_i hc (Nat.le_refl 4) hlt q] at h; exact h
    · rintro _ rfl
      refine hKK _ hlt ⟨nI_1 j, fun d hd => ?_⟩
      by_cases e : d = j
      · rw [e]; exact q
      · exact k1 d (by omega)
theorem towards6 {c x : Nat} (hc : c < 16) (hx : x < 16) {post : Int32 → Prop} (h : post (gI (dirTo c x 4))) : wX6_towards (nI c) (nI x) post := by
  unfold wX6_towards
  refine wl_up2 (fun j y z => y = gI (dirTo c x j) ∧ z = nI j) 4 ?_ (i := 0) (by decide) ⟨rfl, rfl⟩
  rintro j y z KK hj ⟨rfl, rfl⟩ hKK
  refine ⟨fun hc4 => ?_, fun hc4 => ?_⟩
  · have := (nI_leI (a := 4) (by decide) (by omega)).mp hc4
    obtain rfl : j = 4 := by omega
    exact h
  · have hlt : j < 4 := by
      rcases Nat.lt_or_ge j 4 with h' | h'
      · exact h'
      · exact absurd (nI_le (a := 4) h' (by omega)) hc4
    refine beside6 hc hlt ?_
    rw [nb_eqI hc hlt hx]
    refine ⟨fun q => ?_, fun q => ?_⟩
    · rintro _ rfl
      refine hKK _ _ hlt ⟨?_, nI_1 j⟩
      show nI j = gI (if nbN c j = some x then some j else dirTo c x j)
      rw [if_pos q]; rfl
    · rintro _ rfl
      refine hKK _ _ hlt ⟨?_, nI_1 j⟩
      show gI (dirTo c x j) = gI (if nbN c j = some x then some j else dirTo c x j)
      rw [if_neg q]
def finB (o : Option Nat) (L : Nat) (c : Option Nat) : Bool := match c with
  | none => false
  | some x => (L == 0) && inB o x
def rdN (g : Nat → Int64) (K T : Nat) (i o : Option Nat) : Nat → Nat → Nat → Option Nat → Option Nat → Bool → Int32
  | 0 => fun _ L c _ _ => if finB o L c then 0 else 100
  | r + 1 => fun k L c b t => match cellN (g k) with
    | none => nI (k + 1)
    | some x => if L.testBit x then (match c with
      | none => if inB i x then rdN g K T i o r (k + 1) (delN L x) (some x) none false else nI (k + 1)
      | some y => match dirTo y x 4 with
        | none => nI (k + 1)
        | some d => if mayN K (nearN T x) b d t then rdN g K T i o r (k + 1) (delN L x) (some x) (some d) (turnN b d) else nI (k + 1)) else nI (k + 1)
section
variable {g : Nat → Int64} {K T : Nat} {i o : Option Nat} {r k L : Nat} {c b : Option Nat} {t : Bool}
theorem rd_0 : rdN g K T i o 0 k L c b t = if finB o L c then 0 else 100 := rfl
theorem rd_n (h : cellN (g k) = none) : rdN g K T i o (r + 1) k L c b t = nI (k + 1) := by
  unfold rdN; rw [h]
theorem rd_f {x : Nat} (h : cellN (g k) = some x) (h2 : L.testBit x = false) : rdN g K T i o (r + 1) k L c b t = nI (k + 1) := by
  unfold rdN; rw [h]
  show (if L.testBit x then _ else _) = _
  rw [h2]; rfl
theorem rd_i {x : Nat} (h : cellN (g k) = some x) (h2 : L.testBit x = true) : rdN g K T i o (r + 1) k L none b t = if inB i x then rdN g K T i o r (k + 1) (delN L x) (some x) none false else nI (k + 1) := by
  show (match cellN (g k) with | none => _ | some x => _) = _
  rw [h]
  show (if L.testBit x then _ else _) = _
  rw [h2]; rfl
theorem rd_d {x y : Nat} (h : cellN (g k) = some x) (h2 : L.testBit x = true) (h3 : dirTo y x 4 = none) : rdN g K T i o (r + 1) k L (some y) b t = nI (k + 1) := by
  show (match cellN (g k) with | none => _ | some x => _) = _
  rw [h]
  show (if L.testBit x then _ else _) = _
  rw [h2]
  show (match dirTo y x 4 with | none => _ | some d => _) = _
  rw [h3]
theorem rd_s {x y d : Nat} (h : cellN (g k) = some x) (h2 : L.testBit x = true) (h3 : dirTo y x 4 = some d) : rdN g K T i o (r + 1) k L (some y) b t = if mayN K (nearN T x) b d t then rdN g K T i o r (k + 1) (delN L x) (some x) (some d) (turnN b d) else nI (k + 1) := by
  show (match cellN (g k) with | none => _ | some x => _) = _
  rw [h]
  show (if L.testBit x then _ else _) = _
  rw [h2]
  show (match dirTo y x 4 with | none => _ | some d => _) = _
  rw [h3]
end
end
