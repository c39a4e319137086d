/-! the longest furrow -/
section
variable {K B M E : Nat} {i o : Option Nat}
def mxo (o : Option Nat) (g : Nat) (l : List Nod) : Nat := l.foldl (fun g m => if okO o m then max g m.1 else g) g
theorem mxo_app (g : Nat) (l l' : List Nod) : mxo o g (l ++ l') = mxo o (mxo o g l) l' := List.foldl_append
theorem mxo_le : ∀ {l : List Nod} {g : Nat}, (∀ m ∈ l, okO o m = true → m.1 ≤ g) → mxo o g l = g
  | [], _, _ => rfl
  | a :: l, g, h => by
    show mxo o (if okO o a then max g a.1 else g) l = g
    cases e : okO o a with
    | false => exact mxo_le (fun m hm => h m (List.mem_cons_of_mem _ hm))
    | true =>
      have := h a List.mem_cons_self e
      rw [if_pos rfl, Nat.max_eq_left this]
      exact mxo_le (fun m hm => h m (List.mem_cons_of_mem _ hm))
theorem mxo_ge : ∀ (l : List Nod) (g : Nat), g ≤ mxo o g l
  | [], _ => Nat.le_refl _
  | a :: l, g => by
    show g ≤ mxo o (if okO o a then max g a.1 else g) l
    refine Nat.le_trans ?_ (mxo_ge l _)
    split
    · exact Nat.le_max_left _ _
    · exact Nat.le_refl _
theorem mxo_bd : ∀ {l : List Nod} {g v : Nat}, (∀ m ∈ l, okO o m = true → m.1 ≤ v) → g ≤ v → mxo o g l ≤ v
  | [], _, _, _, h => h
  | a :: l, g, v, h, hg => by
    show mxo o (if okO o a then max g a.1 else g) l ≤ v
    refine mxo_bd (fun m hm => h m (List.mem_cons_of_mem _ hm)) ?_
    cases e : okO o a with
    | false => exact hg
    | true =>
      have := h a List.mem_cons_self e
      rw [if_pos rfl]
      exact Nat.max_le.mpr ⟨hg, this⟩
theorem mxo_in : ∀ {l : List Nod} {g : Nat} {m : Nod}, m ∈ l → okO o m = true → m.1 ≤ mxo o g l
  | a :: l, g, m, hm, ho => by
    show m.1 ≤ mxo o (if okO o a then max g a.1 else g) l
    rcases List.mem_cons.mp hm with rfl | hm
    · refine Nat.le_trans ?_ (mxo_ge l _)
      rw [ho, if_pos rfl]
      exact Nat.le_max_right _ _
    · exact mxo_in hm ho
theorem stretch5 (hK : K < 6) (ho : gOk o) (hM16 : M ≤ 16) (bd : Int) : ∀ (d n : Nat) (w : Nat → Nat) (L c : Nat) (b : Option Nat) (t : Bool) (tu : Nat) (S : Bun) (g : Nat) (post : Bun → Prop), d + n = 18 → 1 ≤ n → n ≤ 16 → L < 65536 → c < 16 → dOk b → n + cdN L = M → w (n - 1) = c → L.testBit c = false → tu < n → S 0 0 = nI K → S 0 2 = nI B → S 0 4 = gI o → S 0 11 = nI g → g ≤ 16 → (S 0 12).toInt = bd → (∀ m ∈ nds K B d n w L c b t tu, okO o m = true → (m.1 : Int) ≤ bd) → (∀ S' : Bun, (∀ k, k ≠ 11 → S' 0 k = S 0 k) → (∀ r, r ≠ 0 → S' r = S r) → S' 0 11 = nI (mxo o g (nds K B d n w L c b t tu)) → post S') → wX0_stretch d S (nI n) (nI c) (nI L) (gI b) (bI t) post := by
  intro d
  induction d with
  | zero => intro n w L c b t tu S g post hd h1 h2; omega
  | succ d ih =>
    intro n w L c b t tu S g post hd hn hn16 hL hc hb hM hw hcL htu s0 s2 s4 s11 hg s12 hbd hp
    unfold wX0_stretch
    have len : ∀ m ∈ nds K B (d + 1) n w L c b t tu, m.1 ≤ 16 := fun m hm => by
      have := (nds_tu (d + 1) n w L c b t tu hL htu m hm).2
      omega
    have kin : ∀ i, i < 4 → ∀ m ∈ kid K B d n w L c b t tu i, m ∈ nds K B (d + 1) n w L c b t tu := fun i hi m hm => by
      rw [nds_succ]; exact List.mem_cons_of_mem _ (cat_mem hi hm)
    have rest : ∀ (S1 : Bun) (g1 : Nat), g1 = (if okO o (n, w, tu) then max g n else g) → S1 0 11 = nI g1 → (∀ k, k ≠ 11 → S1 0 k = S 0 k) → (∀ r, r ≠ 0 → S1 r = S r) → ((nI c = (S1 0 4) → post S1) ∧ (¬ (nI c = (S1 0 4)) → (((16 : Int32) ≤ nI n → post S1) ∧ (¬ ((16 : Int32) ≤ nI n) → (((S1 0 11) < (S1 0 12) → wloop (σ := Int32 × Bun) (fun K7 z => match z with | (x5, S6) => (((4 : Int32) ≤ x5 → post S6) ∧ (¬ ((4 : Int32) ≤ x5) → vp_in x5 4 ∧ ∀ x14 : Int32, x14 = tbBy x5.toNatClampNeg → wX5_cellTowards (nI c) x14 (fun r15 => ((r15 < 0 → ∀ x17 : Int32, x17 = x5 + (1 : Int32) → K7 (x17, S6)) ∧ (¬ (r15 < 0) → wX5_holds (nI L) r15 (fun r19 => ((r19 = 0 → ∀ x33 : Int32, x33 = x5 + (1 : Int32) → K7 (x33, S6)) ∧ (¬ (r19 = 0) → wX5_mayStep (S6 0 0) (S6 0 2) r15 (gI b) x14 (bI t) (fun r21 => ((r21 = 0 → ∀ x23 : Int32, x23 = x5 + (1 : Int32) → K7 (x23, S6)) ∧ (¬ (r21 = 0) → wX5_isTurn (gI b) x14 (fun r25 => wX0_stretch d S6 (nI n + (1 : Int32)) r15 (nI L &&& (((1 : Int32) <<< (r15 &&& 31)) ^^^ (-1 : Int32))) x14 r25 (fun S29 => ∀ x30 : Int32, x30 = x5 + (1 : Int32) → K7 (x30, S29))))))))))))))) ((0 : Int32), S1)) ∧ (¬ ((S1 0 11) < (S1 0 12)) → post S1)))))) := by
      intro S1 g1 eg t11 tk tr
      have g16 : g1 ≤ 16 := by
        rw [eg]; split
        · exact Nat.max_le.mpr ⟨hg, hn16⟩
        · exact hg
      have top : mxo o g (nds K B (d + 1) n w L c b t tu) = mxo o g1 (catTo (kid K B d n w L c b t tu) 4) := by rw [nds_succ, eg]; rfl
      have done : (∀ m ∈ catTo (kid K B d n w L c b t tu) 4, okO o m = true → m.1 ≤ g1) → post S1 := fun q => hp S1 tk tr (by rw [top, mxo_le q]; exact t11)
      have tu' : ∀ k, k ≤ 4 → mxo o g1 (catTo (kid K B d n w L c b t tu) k) ≤ 16 := fun k hk => mxo_bd (fun m hm _ => by
        obtain ⟨j, hj, hm⟩ := mem_cat hm
        exact len m (kin j (by omega) m hm)) g16
      refine ⟨fun z => done (fun m hm hok => ?_), fun z => ⟨fun z16 => done (fun m hm hok => ?_), fun z16 => ⟨fun zb => ?_, fun zb => done (fun m hm hok => ?_)⟩⟩⟩
      · exfalso
        rw [tk 4 (by decide), s4] at z
        cases o with
        | none =>
          have := nI_pos (n := c) (by omega)
          rw [z] at this
          exact this (by decide)
        | some q =>
          have hq := ho q rfl
          have e : c = q := (nI_eq (by omega) (by omega)).mp z
          have e2 : m.2.1 (m.1 - 1) = q := eq_of_beq hok
          obtain ⟨j, hj, hm⟩ := mem_cat hm
          obtain ⟨x, hx, hm⟩ := mem_kid hm
          obtain ⟨_, hl, _⟩ := nxt_s hx
          obtain ⟨p1, p2, p3⟩ := nds_path d (n + 1) (ext w n x) (delN L x) x _ _ _ (del_lt hL) (by omega) (ext_n w n x) m hm
          have : L.testBit (m.2.1 (m.1 - 1)) = true := by
            by_cases ee : m.1 = n + 1
            · rw [ee, Nat.add_sub_cancel, p2 n (by omega), ext_n]; exact hl
            · have := (p3 (m.1 - 1) (by omega) (by omega)).1
              rw [del_bit hL] at this
              split at this
              · exact absurd this (by decide)
              · exact this
          rw [e2, ← e, hcL] at this
          exact absurd this (by decide)
      · exfalso
        have := (nI_leI (a := 16) (by decide) (by omega)).mp z16
        have L0 : L = 0 := cd_0 hL (by omega)
        obtain ⟨j, hj, hm⟩ := mem_cat hm
        rw [kid_none (nxt_0 L0)] at hm
        cases hm
      · have hn15 : n < 16 := by
          rcases Nat.lt_or_ge n 16 with h | h
          · exact h
          · exact absurd (nI_le (a := 16) h (by omega)) z16
        refine wl_up2 (fun i x S6 => x = nI i ∧ (∀ k, k ≠ 11 → S6 0 k = S 0 k) ∧ (∀ r, r ≠ 0 → S6 r = S r) ∧ S6 0 11 = nI (mxo o g1 (catTo (kid K B d n w L c b t tu) i))) 4 ?_ (i := 0) (by decide) ⟨rfl, tk, tr, t11⟩
        rintro i x S6 KK hi ⟨rfl, k1, k2, k3⟩ hKK
        refine ⟨fun h4 => ?_, fun h4 => ?_⟩
        · have := (nI_leI (a := 4) (by decide) (by omega)).mp h4
          obtain rfl : i = 4 := by omega
          exact hp S6 k1 k2 (by rw [top]; exact k3)
        · have hlt : i < 4 := by
            rcases Nat.lt_or_ge i 4 with h' | h'
            · exact h'
            · exact absurd (nI_le (a := 4) h' (by omega)) h4
          refine ⟨vp_in_nI hlt (by decide), ?_⟩
          rw [tn_nI (by omega), tbBy_d hlt]
          rintro _ rfl
          have skip : nxt K B L c b t i = none → ∀ x15 : Int32, x15 = nI i + (1 : Int32) → KK (x15, S6) := by
            rintro hx _ rfl
            refine hKK _ _ hlt ⟨nI_1 i, k1, k2, ?_⟩
            show S6 0 11 = nI (mxo o g1 (catTo (kid K B d n w L c b t tu) i ++ kid K B d n w L c b t tu i))
            rw [kid_none hx, List.append_nil]; exact k3
          refine towards5 hc (dir_lt i) ?_
          cases hnb : nbN c (dirN i) with
          | none => exact br_t (by decide) (skip (nxt_n hnb))
          | some x =>
            have hx16 := nb_lt hc (dir_lt i) hnb
            refine br_f (nI_pos (by omega)) (holds_b (by omega) (fun hl => br_f (by decide) ?_) (fun hl => br_t rfl ?_))
            · rw [bt_nI (by omega)] at hl
              rw [k1 0 (by decide), k1 2 (by decide), s0, s2]
              refine mayStep5 hK hx16 hb (dir_lt i) ?_
              rw [bt_nI (by omega)]
              refine br_b (fun hm => skip (nxt_f hnb (by rw [hm, Bool.and_false]))) (fun hm => ?_)
              have hx := nxt_t (K := K) (B := B) (L := L) (t := t) (b := b) hnb (by rw [hl, hm]; rfl)
              refine turn5 hb (dir_lt i) ?_
              rw [show gI (some x) = nI x from rfl, del_I hL hx16, show nI n + (1 : Int32) = nI (n + 1) from nI_1 n]
              have cd := del_cd hL hx16 hl
              have bl := bN_le (turnN b (dirN i))
              have ek := kid_some (d := d) (n := n) (w := w) (tu := tu) hx
              refine ih (n + 1) (ext w n x) (delN L x) x (some (dirN i)) (turnN b (dirN i)) (tu + bN (turnN b (dirN i))) S6 (mxo o g1 (catTo (kid K B d n w L c b t tu) i)) _ (by omega) (by omega) (by omega) (del_lt hL) hx16 (fun y hy => by rw [← Option.some.inj hy]; exact dir_lt i) (by omega) (ext_n w n x) (by rw [del_bit hL, if_pos rfl]) (by omega) ((k1 0 (by decide)).trans s0) ((k1 2 (by decide)).trans s2) ((k1 4 (by decide)).trans s4) k3 (tu' i (by omega)) (by rw [k1 12 (by decide)]; exact s12) (fun m hm hok => hbd m (kin i hlt m (by rw [ek]; exact hm)) hok) ?_
              rintro S' u1 u2 u3 _ rfl
              refine hKK _ _ hlt ⟨nI_1 i, fun k kk => by rw [u1 k kk, k1 k kk], fun r hr => by rw [u2 r hr, k2 r hr], ?_⟩
              show S' 0 11 = nI (mxo o g1 (catTo (kid K B d n w L c b t tu) i ++ kid K B d n w L c b t tu i))
              rw [mxo_app, ek]; exact u3
            · rw [bt_nI (by omega)] at hl
              exact skip (nxt_f hnb (by rw [hl, Bool.false_and]))
      · obtain ⟨j, hj, hm⟩ := mem_cat hm
        have h1 := hbd m (kin j hj m hm) hok
        rw [fa_lt, tk 12 (by decide), s12, t11, nI_toInt (by omega)] at zb
        omega
    have keepIt : okO o (n, w, tu) = true → ∀ S44 : Bun, S44 = up S 0 11 (if (S 0 11) < nI n then nI n else (S 0 11)) → _ := fun hok S44 e44 => rest S44 (max g n) (by rw [hok, if_pos rfl]) (by
      rw [e44, up_ss, s11]
      by_cases q : g < n
      · rw [if_pos (nI_lt q (by omega)), Nat.max_eq_right (by omega)]
      · rw [if_neg (nI_nlt (by omega) (by omega)), Nat.max_eq_left (by omega)]) (fun k hk => by rw [e44, up_ki hk]) (fun r hr => by rw [e44, up_k hr])
    refine wj (wj ?_)
    cases o with
    | none => exact br_t (by rw [s4]; decide) (keepIt rfl)
    | some q =>
      have hq := ho q rfl
      refine br_f (by rw [s4]; exact nI_pos (by omega)) ?_
      have ei : nI c = S 0 4 ↔ c = q := by rw [s4]; exact nI_eq (by omega) (by omega)
      refine ⟨fun z => keepIt (by show (w (n - 1) == q) = true; rw [hw, ei.mp z]; exact beq_self_eq_true _), fun z => rest S g ?_ s11 (fun _ _ => rfl) (fun _ _ => rfl)⟩
      have e : okO (some q) (n, w, tu) = false := by
        show (w (n - 1) == q) = false
        rw [hw]; exact beq_eq_false_iff_ne.mpr (fun y => z (ei.mpr y))
      rw [e]; rfl
end
