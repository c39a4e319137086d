/-! what is left can't be ploughed: no whole furrow is there -/
section
variable {K B d n L c tu M : Nat} {w : Nat → Nat} {b o : Option Nat} {t : Bool}
def nbG (g : Nat → Bool) : Option Nat → Bool
  | none => false
  | some y => g y
def opn (L c : Nat) (y : Nat) : Bool := L.testBit y || decide (y = c)
theorem nb_bk {c d x : Nat} (hc : c < 16) (hd : d < 4) (h : nbN c d = some x) : ∃ j, j < 4 ∧ nbN x j = some c := by
  have : ∀ c, c < 16 → ∀ i, i < 4 → (match nbN c i with | none => true | some x => (nbN x 0 == some c || nbN x 1 == some c) || (nbN x 2 == some c || nbN x 3 == some c)) = true := by decide
  have := this c hc d hd
  rw [h] at this
  have q : ((nbN x 0 == some c || nbN x 1 == some c) || (nbN x 2 == some c || nbN x 3 == some c)) = true := this
  rw [Bool.or_eq_true, Bool.or_eq_true, Bool.or_eq_true] at q
  rcases q with (q | q) | (q | q)
  · exact ⟨0, by decide, eq_of_beq q⟩
  · exact ⟨1, by decide, eq_of_beq q⟩
  · exact ⟨2, by decide, eq_of_beq q⟩
  · exact ⟨3, by decide, eq_of_beq q⟩
theorem hope_way (hL : L < 65536) (hc : c < 16) (hn : 1 ≤ n) (hw : w (n - 1) = c) (hcL : L.testBit c = false) (hM : n + cdN L = M) (h0 : L ≠ 0) {m : Nod} (hm : m ∈ nds K B d n w L c b t tu) (hwh : whl M o m = true) :
    (∀ x, L.testBit x = true → ∃ dd, dd < 4 ∧ nbG (opn L c) (nbN x dd) = true) ∧ ∃ e, L.testBit e = true ∧ (∀ q, o = some q → e = q) ∧ ∀ x, L.testBit x = true → x ≠ e → ∃ d1 d2, d1 < 4 ∧ d2 < 4 ∧ d1 ≠ d2 ∧ nbG (opn L c) (nbN x d1) = true ∧ nbG (opn L c) (nbN x d2) = true := by
  unfold whl at hwh
  rw [Bool.and_eq_true] at hwh
  have hM1 : m.1 = M := eq_of_beq hwh.1
  obtain ⟨p1, p2, p3⟩ := nds_path d n w L c b t tu hL hn hw m hm
  have cov := nds_cov d n w L c b t tu hL hn hw m hm (by omega)
  have opC : opn L c c = true := by unfold opn; rw [decide_eq_true rfl, Bool.or_true]
  have opL : ∀ y, L.testBit y = true → opn L c y = true := fun y hy => by unfold opn; rw [hy, Bool.true_or]
  -- the cell ahead
  have prev : ∀ k, n ≤ k → k < M → opn L c (m.2.1 (k - 1)) = true ∧ m.2.1 (k - 1) < 16 := by
    intro k k1 k2
    by_cases e : k = n
    · rw [e, p2 (n - 1) (by omega), hw]; exact ⟨opC, hc⟩
    · have := (p3 (k - 1) (by omega) (by omega)).1
      exact ⟨opL _ this, bit_hi hL this⟩
  have back : ∀ k, n ≤ k → k < M → ∃ dd, dd < 4 ∧ nbN (m.2.1 k) dd = some (m.2.1 (k - 1)) := by
    intro k k1 k2
    obtain ⟨_, ⟨dd, hdd, hnb⟩, _⟩ := p3 k k1 (by omega)
    exact nb_bk (prev k k1 k2).2 hdd hnb
  have hcd : 1 ≤ cdN L := by
    have : cdN L ≠ 0 := fun z => h0 (cd_0 hL z)
    omega
  refine ⟨fun x hx => ?_, m.2.1 (M - 1), (p3 (M - 1) (by omega) (by omega)).1, fun q hq => ?_, fun x hx hne => ?_⟩
  · obtain ⟨k, k1, k2, rfl⟩ := cov x hx
    obtain ⟨dd, hdd, hb⟩ := back k k1 (by omega)
    refine ⟨dd, hdd, ?_⟩
    rw [hb]
    exact (prev k k1 (by omega)).1
  · have := hwh.2
    rw [hq] at this
    have e : m.2.1 (m.1 - 1) = q := eq_of_beq this
    rw [hM1] at e
    exact e
  · obtain ⟨k, k1, k2, rfl⟩ := cov x hx
    have k3 : k + 1 < M := by
      rcases Nat.lt_or_ge (k + 1) M with h | h
      · exact h
      · have : k = M - 1 := by omega
        exact absurd (by rw [this]) hne
    obtain ⟨d1, hd1, hb1⟩ := back k k1 (by omega)
    obtain ⟨hz, ⟨d2, hd2, hb2⟩, hdist⟩ := p3 (k + 1) (by omega) (by omega)
    have hb2' : nbN (m.2.1 k) d2 = some (m.2.1 (k + 1)) := hb2
    refine ⟨d1, d2, hd1, hd2, fun e => ?_, ?_, ?_⟩
    · rw [e, hb2'] at hb1
      have hz2 : m.2.1 (k + 1) = m.2.1 (k - 1) := Option.some.inj hb1
      by_cases e2 : k = n
      · rw [hz2, e2, p2 (n - 1) (by omega), hw, hcL] at hz
        exact absurd hz (by decide)
      · exact hdist (k - 1) (by omega) (by omega) hz2.symm
    · rw [hb1]; exact (prev k k1 (by omega)).1
    · rw [hb2']; exact opL _ hz
theorem two_of {v0 v1 v2 v3 : Bool} {d1 d2 : Nat} (h1 : d1 < 4) (h2 : d2 < 4) (hne : d1 ≠ d2) (v : Nat → Bool) (e0 : v 0 = v0) (e1 : v 1 = v1) (e2 : v 2 = v2) (e3 : v 3 = v3) (q1 : v d1 = true) (q2 : v d2 = true) : (((v0 && v2) || (v3 && v1)) || ((v0 || v2) && (v3 || v1))) = true := by
  subst e0 e1 e2 e3
  match d1, h1, d2, h2, hne, q1, q2 with
  | 0, _, 1, _, _, q1, q2 => rw [q1, q2]; simp
  | 0, _, 2, _, _, q1, q2 => rw [q1, q2]; simp
  | 0, _, 3, _, _, q1, q2 => rw [q1, q2]; simp
  | 1, _, 0, _, _, q1, q2 => rw [q1, q2]; simp
  | 1, _, 2, _, _, q1, q2 => rw [q1, q2]; simp
  | 1, _, 3, _, _, q1, q2 => rw [q1, q2]; simp
  | 2, _, 0, _, _, q1, q2 => rw [q1, q2]; simp
  | 2, _, 1, _, _, q1, q2 => rw [q1, q2]; simp
  | 2, _, 3, _, _, q1, q2 => rw [q1, q2]; simp
  | 3, _, 0, _, _, q1, q2 => rw [q1, q2]; simp
  | 3, _, 1, _, _, q1, q2 => rw [q1, q2]; simp
  | 3, _, 2, _, _, q1, q2 => rw [q1, q2]; simp
  | 0, _, 0, _, hne, _, _ => exact absurd rfl hne
  | 1, _, 1, _, hne, _, _ => exact absurd rfl hne
  | 2, _, 2, _, hne, _, _ => exact absurd rfl hne
  | 3, _, 3, _, hne, _, _ => exact absurd rfl hne
theorem one_of {v0 v1 v2 v3 : Bool} {d1 : Nat} (h1 : d1 < 4) (v : Nat → Bool) (e0 : v 0 = v0) (e1 : v 1 = v1) (e2 : v 2 = v2) (e3 : v 3 = v3) (q1 : v d1 = true) : (((v0 || v2) || v3) || v1) = true := by
  subst e0 e1 e2 e3
  match d1, h1, q1 with
  | 0, _, q1 => rw [q1]; simp
  | 1, _, q1 => rw [q1]; simp
  | 2, _, q1 => rw [q1]; simp
  | 3, _, q1 => rw [q1]; simp
/-- the masks of the four directions -/
theorem msk {x1 : Int32} {g : Nat → Bool} (hg : ∀ y, y < 32 → bt x1 y = g y) (hz : ∀ y, 16 ≤ y → g y = false) {x : Nat} (hx : x < 16) : bt (x1 <<< ((4 : Int32) &&& 31)) x = nbG g (nbN x 0) ∧ bt (x1 >>> ((4 : Int32) &&& 31)) x = nbG g (nbN x 2) ∧ bt ((x1 &&& (30583 : Int32)) <<< ((1 : Int32) &&& 31)) x = nbG g (nbN x 3) ∧ bt ((x1 &&& (61166 : Int32)) >>> ((1 : Int32) &&& 31)) x = nbG g (nbN x 1) := by
  have a1 : ∀ x, x < 16 → bt (61166 : Int32) (1 + x) = decide (x % 4 ≠ 3) := by decide +kernel
  have a2 : ∀ x, x < 16 → 1 ≤ x → bt (30583 : Int32) (x - 1) = decide (x % 4 ≠ 0) := by decide +kernel
  have s4 := b_shl 4 (by decide) x1 (i := x) (by omega)
  have r4 := b_sshr 4 (by decide) x1 (i := x) (by omega)
  have s1 := b_shl 1 (by decide) (x1 &&& (30583 : Int32)) (i := x) (by omega)
  have r1 := b_sshr 1 (by decide) (x1 &&& (61166 : Int32)) (i := x) (by omega)
  rw [if_pos (by omega)] at r4 r1
  rw [b_and] at s1 r1
  refine ⟨Eq.trans s4 ?_, Eq.trans r4 ?_, Eq.trans s1 ?_, Eq.trans r1 ?_⟩
  · by_cases h : x < 4
    · rw [show nbN x 0 = none from if_pos h, decide_eq_false (by omega)]; rfl
    · rw [show nbN x 0 = some (x - 4) from if_neg h, decide_eq_true (by omega), Bool.true_and, hg _ (by omega)]; rfl
  · by_cases h : x < 12
    · rw [show nbN x 2 = some (x + 4) from if_pos h, hg _ (by omega), Nat.add_comm]; rfl
    · rw [show nbN x 2 = none from if_neg h, hg _ (by omega), hz _ (by omega)]; rfl
  · by_cases h : x % 4 = 0
    · rw [show nbN x 3 = none from if_pos h]
      by_cases h1 : 1 ≤ x
      · rw [a2 x hx h1, show decide (x % 4 ≠ 0) = false from decide_eq_false (fun z => z h), Bool.and_false, Bool.and_false]; rfl
      · rw [decide_eq_false h1]; rfl
    · rw [show nbN x 3 = some (x - 1) from if_neg h, a2 x hx (by omega), decide_eq_true h, Bool.and_true, decide_eq_true (by omega), Bool.true_and, hg _ (by omega)]; rfl
  · rw [a1 x hx, hg _ (by omega)]
    by_cases h : x % 4 = 3
    · rw [show nbN x 1 = none from if_pos h, decide_eq_false (fun z => z h), Bool.and_false]; rfl
    · rw [show nbN x 1 = some (x + 1) from if_neg h, decide_eq_true h, Bool.and_true, Nat.add_comm]; rfl
theorem one_bit {x : Int32} {e : Nat} (he : e < 16) (h : ∀ y, y < 32 → bt x y = true → y = e) : x = 0 ∨ x = bitI e := by
  cases hb : bt x e with
  | false =>
    refine Or.inl (b_ext (fun i hi => ?_))
    rw [b_0]
    cases hx : bt x i with
    | false => rfl
    | true => rw [h i hi hx, hb] at hx; exact absurd hx (by decide)
  | true =>
    refine Or.inr (b_ext (fun i hi => ?_))
    rw [bitI_b he hi]
    by_cases hie : i = e
    · rw [hie, hb, decide_eq_true rfl]
    · rw [decide_eq_false hie]
      cases hx : bt x i with
      | false => rfl
      | true => exact absurd (h i hi hx) hie
theorem hopeless5 {S : Bun} (hL : L < 65536) (hc : c < 16) (hn : 1 ≤ n) (hw : w (n - 1) = c) (hcL : L.testBit c = false) (hM : n + cdN L = M) (hL0 : L ≠ 0) (ho : gOk o) (eo : S 0 4 = gI o) {post : Int32 → Prop} (h0 : post 0) (h1 : (∀ m ∈ nds K B d n w L c b t tu, whl M o m = false) → post 1) : wX0_isHopeless S (nI c) (nI L) post := by
  unfold wX0_isHopeless
  intro x1 e1 x2 e2 x3 e3 x4 e4 x5 e5 x6 e6 x7 e7 x8 e8
  by_cases ex : ∃ m, m ∈ nds K B d n w L c b t tu ∧ whl M o m = true
  · obtain ⟨m, hm, hwh⟩ := ex
    obtain ⟨one, e, he, hoe, two⟩ := hope_way hL hc hn hw hcL hM hL0 hm hwh
    have he16 := bit_hi hL he
    have hg : ∀ y, y < 32 → bt x1 y = opn L c y := by
      intro y hy
      rw [e1]
      show bt (nI L ||| bitI c) y = _
      rw [b_or, bt_nI hy, bitI_b hc hy]
      rfl
    have hz : ∀ y, 16 ≤ y → opn L c y = false := by
      intro y hy
      unfold opn
      rw [hi_bit hL hy, decide_eq_false (by omega)]; rfl
    have mk : ∀ x, x < 16 → bt x2 x = nbG (opn L c) (nbN x 0) ∧ bt x3 x = nbG (opn L c) (nbN x 2) ∧ bt x4 x = nbG (opn L c) (nbN x 3) ∧ bt x5 x = nbG (opn L c) (nbN x 1) := by
      intro x hx
      rw [e2, e3, e4, e5]
      exact msk hg hz hx
    have c6 : (nI L &&& (x6 ^^^ (-1))) = 0 := by
      refine b_ext (fun y hy => ?_)
      rw [b_0, b_and, bt_nI hy]
      cases hy2 : L.testBit y with
      | false => rfl
      | true =>
        have hy16 := bit_hi hL hy2
        obtain ⟨dd, hdd, hv⟩ := one y hy2
        obtain ⟨q2, q3, q4, q5⟩ := mk y hy16
        have : bt x6 y = true := by
          rw [e6, b_or, b_or, b_or]
          exact one_of hdd (fun d => nbG (opn L c) (nbN y d)) q2.symm q5.symm q3.symm q4.symm hv
        rw [b_xor, this, b_m1 y hy]; rfl
    have c8 : ∀ y, y < 32 → bt x8 y = true → y = e := by
      intro y hy hb
      rw [e8, b_and, bt_nI hy, Bool.and_eq_true] at hb
      by_cases hye : y = e
      · exact hye
      · have hy16 := bit_hi hL hb.1
        obtain ⟨d1, d2, hd1, hd2, hne, v1, v2⟩ := two y hb.1 hye
        obtain ⟨q2, q3, q4, q5⟩ := mk y hy16
        have : bt x7 y = true := by
          rw [e7, b_or, b_or, b_and, b_and, b_and, b_or, b_or]
          exact two_of hd1 hd2 hne (fun d => nbG (opn L c) (nbN y d)) q2.symm q5.symm q3.symm q4.symm v1 v2
        have hb2 := hb.2
        rw [b_xor, this, b_m1 y hy] at hb2
        exact absurd hb2 (by decide)
    have ob := one_bit he16 c8
    have c9 : x8 &&& (x8 - 1) = 0 := by
      rcases ob with z | z
      · rw [z]; decide
      · rw [z]; exact (show ∀ e, e < 16 → bitI e &&& (bitI e - 1) = 0 by decide +kernel) e he16
    refine br_t c6 (br_t c9 ?_)
    rw [eo]
    cases o with
    | none => exact br_t (by decide) h0
    | some q =>
      have hq := ho q rfl
      have heq := hoe q rfl
      refine br_f (nI_pos (by omega)) (holds_b (by omega) (fun _ => br_f (by decide) (br_t ?_ h0)) (fun z => ?_))
      · show x8 &&& (bitI q ^^^ (-1)) = 0
        rcases ob with z | z
        · rw [z]
          refine b_ext (fun y hy => ?_)
          rw [b_and, b_0, Bool.false_and]
        · rw [z, heq]
          exact (show ∀ e, e < 16 → bitI e &&& (bitI e ^^^ (-1)) = 0 by decide +kernel) q hq
      · rw [bt_nI (by omega), ← heq, he] at z
        exact absurd z (by decide)
  · have h1' : post 1 := h1 (fun m hm => by
      cases hb : whl M o m with
      | false => rfl
      | true => exact absurd ⟨m, hm, hb⟩ ex)
    refine ⟨fun _ => ⟨fun _ => ⟨fun _ => h0, fun hneg => ?_⟩, fun _ => h1'⟩, fun _ => h1'⟩
    rw [eo] at hneg ⊢
    cases o with
    | none => exact absurd (show gI none < 0 by decide) hneg
    | some q =>
      have hq := ho q rfl
      exact holds_b (by omega) (fun _ => br_f (by decide) ⟨fun _ => h0, fun _ => h1'⟩) (fun _ => br_t rfl h1')
/-- colours bar: no whole furrow is there -/
theorem bar_none {E s : Nat} (hE : E < 65536) (hs : E.testBit s = true) (hM : cdN E = M) (hbar : barN E (some s) o ≠ 0) : ∀ m ∈ nds K B d 1 w (delN E s) s b t tu, w 0 = s → whl M o m = false := by
  intro m hm hw0
  cases hb : whl M o m with
  | false => rfl
  | true =>
    exfalso
    have hs16 := bit_hi hE hs
    unfold whl at hb
    rw [Bool.and_eq_true] at hb
    have hM1 : m.1 = M := eq_of_beq hb.1
    have ea := del_A hE hs16 hs
    have eb := del_B hE hs16 hs
    have ab := cd_AB (delN E s)
    have cd := del_cd hE hs16 hs
    obtain ⟨a, e, h1, h2, h3, h4, h5⟩ := nds_col d 1 w (delN E s) s b t tu (del_lt hE) hs16 (Nat.le_refl 1) hw0 m hm
    have ha : a = colA (delN E s) 16 := by omega
    have he : e = colB (delN E s) 16 := by omega
    have n0 : E ≠ 0 := fun z => by rw [z, Nat.zero_testBit] at hs; exact absurd hs (by decide)
    have last : ∀ q, o = some q → m.2.1 (m.1 - 1) = q := by
      intro q hq
      have := hb.2
      rw [hq] at this
      exact eq_of_beq this
    apply hbar
    cases hv : evB s with
    | true =>
      rw [hv] at ea eb
      have ea' : colA (delN E s) 16 + 1 = colA E 16 := ea
      have eb' : colB (delN E s) 16 + 0 = colB E 16 := eb
      rcases h4 hv with ⟨q1, q2⟩ | ⟨q1, q2⟩
      · rw [barN_3 n0 (by omega), decide_eq_true (by omega), bad_f hv]
        cases o with
        | none => rfl
        | some q =>
          have := last q rfl
          rw [this] at q2
          rw [bad_f q2]; rfl
      · rw [barN_2 n0 (by omega)]
        cases o with
        | none => rfl
        | some q =>
          have := last q rfl
          rw [this] at q2
          exact if_neg (by rw [hv, q2]; decide)
    | false =>
      rw [hv] at ea eb
      have ea' : colA (delN E s) 16 + 0 = colA E 16 := ea
      have eb' : colB (delN E s) 16 + 1 = colB E 16 := eb
      rcases h5 hv with ⟨q1, q2⟩ | ⟨q1, q2⟩
      · rw [barN_3 n0 (by omega), decide_eq_false (by omega), bad_f hv]
        cases o with
        | none => rfl
        | some q =>
          have := last q rfl
          rw [this] at q2
          rw [bad_f q2]; rfl
      · rw [barN_2 n0 (by omega)]
        cases o with
        | none => rfl
        | some q =>
          have := last q rfl
          rw [this] at q2
          exact if_neg (by rw [hv, q2]; decide)
end
