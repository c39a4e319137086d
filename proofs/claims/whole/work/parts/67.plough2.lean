/-! the class's search: plough, searchWhole -/
section
variable {K B M : Nat} {o : Option Nat}
theorem tbBy_d {i : Nat} (h : i < 4) : tbBy i = nI (dirN i) := (show ∀ i, i < 4 → tbBy i = nI (dirN i) by decide) i h
theorem nxt_n {L c i : Nat} {b : Option Nat} {t : Bool} (h : nbN c (dirN i) = none) : nxt K B L c b t i = none := by unfold nxt; rw [h]
theorem nxt_t {L c i x : Nat} {b : Option Nat} {t : Bool} (h : nbN c (dirN i) = some x) (h2 : (L.testBit x && mayN K (B.testBit x) b (dirN i) t) = true) : nxt K B L c b t i = some x := by
  unfold nxt; rw [h]
  exact if_pos h2
theorem nxt_f {L c i x : Nat} {b : Option Nat} {t : Bool} (h : nbN c (dirN i) = some x) (h2 : (L.testBit x && mayN K (B.testBit x) b (dirN i) t) = false) : nxt K B L c b t i = none := by
  unfold nxt; rw [h]
  exact if_neg (by rw [h2]; decide)
theorem cat_len {α : Type} (g : Nat → List α) {i j : Nat} (h : i ≤ j) : (catTo g i).length ≤ (catTo g j).length := by
  induction j with
  | zero => rw [Nat.le_zero.mp h]; exact Nat.le_refl _
  | succ j ih =>
    by_cases e : i = j + 1
    · rw [e]; exact Nat.le_refl _
    · refine Nat.le_trans (ih (by omega)) ?_
      show (catTo g j).length ≤ (catTo g j ++ g j).length
      rw [List.length_append]; omega
theorem plough5 (hK : K < 6) (ho : gOk o) (hM16 : M ≤ 16) : ∀ (d n : Nat) (w : Nat → Nat) (L c : Nat) (b : Option Nat) (t : Bool) (tu : Nat) (S : Bun) (W : List Nod) (post : Bun → Prop), d + n = 18 → 1 ≤ n → n ≤ 16 → L < 65536 → c < 16 → dOk b → n + cdN L = M → w (n - 1) = c → L.testBit c = false → (∀ k, k < n → w k < 16) → tu < n → S 0 0 = nI K → S 0 2 = nI B → S 0 4 = gI o → (∀ k, k < n → S 14 k = nI (w k)) → Rp W S → (W ++ wls K B M o d n w L c b t tu).length < 2 ^ 31 → (∀ S' : Bun, (∀ k, k ≠ 6 → k ≠ 7 → S' 0 k = S 0 k) → (∀ k, k < n → S' 14 k = nI (w k)) → Rp (W ++ wls K B M o d n w L c b t tu) S' → post S') → wX0_plough d S (nI n) (nI c) (nI L) (gI b) (bI t) (nI tu) post := by
  intro d
  induction d with
  | zero => intro n w L c b t tu S W post hd h1 h2; omega
  | succ d ih =>
    intro n w L c b t tu S W post hd hn hn16 hL hc hb hM hw hcL hw16 htu s0 s2 s4 s14 hR hlen hp
    unfold wX0_plough
    refine ⟨fun z => ?_, fun z => ⟨fun z16 => ?_, fun z16 => ?_⟩⟩
    · have hL0 : L = 0 := (nI_eq (b := 0) (by omega) (by decide)).mp z
      rw [wls_0 hM hL0] at hp hlen
      rw [List.length_append] at hlen
      rw [← hw]
      refine keep5 hR (by omega) hn hn16 s14 hw16 (by omega) s4 ho (fun S' q1 q2 q3 => hp S' q1 (fun k hk => by rw [q2]; exact s14 k hk) q3)
    · have := (nI_leI (a := 16) (by decide) (by omega)).mp z16
      have : cdN L = 0 := by omega
      exact absurd (by rw [cd_0 hL this]; rfl) z
    · have hL0 : L ≠ 0 := fun q => z (by rw [q]; rfl)
      have hn15 : n < 16 := by
        rcases Nat.lt_or_ge n 16 with h | h
        · exact h
        · exact absurd (nI_le (a := 16) h (by omega)) z16
      have cnt : ∀ i, i ≤ 4 → (W ++ catTo (wkd K B M o d n w L c b t tu) i).length < 2 ^ 31 := by
        intro i hi
        rw [wls_pos hM hL hL0, List.length_append] at hlen
        have := cat_len (wkd K B M o d n w L c b t tu) hi
        rw [List.length_append]; omega
      refine hopeless5 (K := K) (B := B) (d := d + 1) (b := b) (t := t) (tu := tu) hL hc hn hw hcL hM hL0 ho s4 (br_t rfl ?_) (fun no => br_f (by decide) ?_)
      · refine wl_up2 (fun i x S4 => x = nI i ∧ (∀ k, k ≠ 6 → k ≠ 7 → S4 0 k = S 0 k) ∧ (∀ k, k < n → S4 14 k = nI (w k)) ∧ Rp (W ++ catTo (wkd K B M o d n w L c b t tu) i) S4) 4 ?_ (i := 0) (by decide) ⟨rfl, fun _ _ _ => rfl, s14, by show Rp (W ++ []) S; rw [List.append_nil]; exact hR⟩
        rintro i x S4 KK hi ⟨rfl, k1, k2, k3⟩ hKK
        refine ⟨fun h4 => ?_, fun h4 => ?_⟩
        · have := (nI_leI (a := 4) (by decide) (by omega)).mp h4
          obtain rfl : i = 4 := by omega
          exact hp S4 k1 k2 (by rw [wls_pos hM hL hL0]; exact k3)
        · have hlt : i < 4 := by
            rcases Nat.lt_or_ge i 4 with h' | h'
            · exact h'
            · exact absurd (nI_le (a := 4) h' (by omega)) h4
          refine ⟨vp_in_nI hlt (by decide), ?_⟩
          rw [tn_nI (by omega), tbBy_d hlt]
          rintro _ rfl
          have skip : nxt K B L c b t i = none → ∀ x15 : Int32, x15 = nI i + (1 : Int32) → KK (x15, S4) := by
            rintro hx _ rfl
            refine hKK _ _ hlt ⟨nI_1 i, k1, k2, ?_⟩
            show Rp (W ++ (catTo (wkd K B M o d n w L c b t tu) i ++ wkd K B M o d n w L c b t tu i)) S4
            have : wkd K B M o d n w L c b t tu i = [] := by unfold wkd; rw [kid_none hx]; rfl
            rw [this, List.append_nil]; exact k3
          refine towards5 hc (dir_lt i) ?_
          cases hnb : nbN c (dirN i) with
          | none => exact br_t (by decide) (skip (nxt_n hnb))
          | some x =>
            have hx16 := nb_lt hc (dir_lt i) hnb
            refine br_f (nI_pos (by omega)) (holds_b (by omega) (fun hl => br_f (by decide) ?_) (fun hl => br_t rfl ?_))
            · rw [bt_nI (by omega)] at hl
              rw [k1 0 (by decide) (by decide), k1 2 (by decide) (by decide), s0, s2]
              refine mayStep5 hK hx16 hb (dir_lt i) ?_
              rw [bt_nI (by omega)]
              refine br_b (fun hm => skip (nxt_f hnb (by rw [hm, Bool.and_false]))) (fun hm => ?_)
              have hx := nxt_t (K := K) (B := B) (L := L) (t := t) (b := b) hnb (by rw [hl, hm]; rfl)
              refine turn5 hb (dir_lt i) ⟨vp_in_nI hn15 (by decide), ?_⟩
              rintro _ rfl
              rw [tn_nI (by omega), show gI (some x) = nI x from rfl, del_I hL hx16, show nI n + (1 : Int32) = nI (n + 1) from nI_1 n]
              have cd := del_cd hL hx16 hl
              have ek : wkd K B M o d n w L c b t tu i = wls K B M o d (n + 1) (ext w n x) (delN L x) x (some (dirN i)) (turnN b (dirN i)) (tu + bN (turnN b (dirN i))) := by unfold wkd; rw [kid_some hx]; rfl
              have bl := bN_le (turnN b (dirN i))
              have go : wX0_plough d (up S4 14 n (nI x)) (nI (n + 1)) (nI x) (nI (delN L x)) (gI (some (dirN i))) (bI (turnN b (dirN i))) (nI (tu + bN (turnN b (dirN i)))) (fun S32 => ∀ x33 : Int32, x33 = nI i + (1 : Int32) → KK (x33, S32)) := by
                refine ih (n + 1) (ext w n x) (delN L x) x (some (dirN i)) (turnN b (dirN i)) (tu + bN (turnN b (dirN i))) (up S4 14 n (nI x)) (W ++ catTo (wkd K B M o d n w L c b t tu) i) _ (by omega) (by omega) (by omega) (del_lt hL) hx16 (fun y hy => by rw [← Option.some.inj hy]; exact dir_lt i) (by omega) (ext_n w n x) (by rw [del_bit hL, if_pos rfl]) (fun k hk => ?_) (by omega) ?_ ?_ ?_ (fun k hk => ?_) ?_ ?_ ?_
                · by_cases e : k = n
                  · rw [e, ext_n]; exact hx16
                  · rw [ext_o e]; exact hw16 k (by omega)
                · rw [up_k (by decide), k1 0 (by decide) (by decide)]; exact s0
                · rw [up_k (by decide), k1 2 (by decide) (by decide)]; exact s2
                · rw [up_k (by decide), k1 4 (by decide) (by decide)]; exact s4
                · by_cases e : k = n
                  · rw [e, ext_n, up_ss]
                  · rw [ext_o e, up_ki e]; exact k2 k (by omega)
                · obtain ⟨q0, q1, q2, q3, q4⟩ := k3
                  refine ⟨q0, by rw [up_k (by decide)]; exact q1, fun m hm => ?_, fun c hc => by rw [up_k (by decide)]; exact q3 c hc, fun c hc => by rw [up_k (by decide)]; exact q4 c hc⟩
                  rw [up_k (by decide), up_k (by decide)]; exact q2 m hm
                · rw [← ek, List.append_assoc]
                  exact cnt (i + 1) (by omega)
                · rintro S' u1 u2 u3 _ rfl
                  refine hKK _ _ hlt ⟨nI_1 i, fun k k6 k7 => ?_, fun k hk => ?_, ?_⟩
                  · rw [u1 k k6 k7, up_k (by decide), k1 k k6 k7]
                  · rw [u2 k (by omega), ext_o (by omega)]
                  · rw [← ek, List.append_assoc] at u3
                    exact u3
              refine wj (br_b (fun hT => ?_) (fun hT => ?_))
              · rw [hT] at go
                rw [hT]
                exact go
              · rw [hT] at go
                rw [hT, show nI tu + (1 : Int32) = nI (tu + 1) from nI_1 tu]
                exact go
            · rw [bt_nI (by omega)] at hl
              exact skip (nxt_f hnb (by rw [hl, Bool.false_and]))
      · refine hp S (fun _ _ _ => rfl) s14 ?_
        have : wls K B M o (d + 1) n w L c b t tu = [] := by
          unfold wls
          exact List.filter_eq_nil_iff.mpr (fun m hm => by rw [no m hm]; decide)
        rw [this, List.append_nil]; exact hR
end
