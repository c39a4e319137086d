/-! THE TEXT: an item, on both sides -/
section
variable {b : Nat → Nat} {L : Nat}
theorem nx_b {s : Nat} (h : s ≤ L) : s ≤ nxS b L s ∧ nxS b L s ≤ L := nx_le h
theorem cl_pos : ∀ (f s least set : Nat), s ≤ L → s ≤ (clN b L f s least set).2.1 ∧ (clN b L f s least set).2.1 ≤ L
  | 0, s, _, _, h => ⟨Nat.le_refl s, h⟩
  | f + 1, s, least, set, h => by
    have n := nx_b (b := b) h
    cases e : nmB b L s least 15 with
    | false => rw [cl_f e]; exact ⟨Nat.le_refl s, h⟩
    | true =>
      by_cases k2 : kdN b L (nxS b L s) = 2
      · rw [cl_m e k2]
        have := cl_pos f (nxS b L s) (vC b L s + 1) (set ||| 2 ^ vC b L s) n.2
        omega
      · rw [cl_e e k2]; exact n
theorem clR_pos {s i : Nat} {r : Bool × Nat × Nat} (hr : clR b L s i = r) (h : s ≤ L) : s ≤ r.2.1 ∧ r.2.1 ≤ L := by
  rw [← hr]
  have n := nx_b (b := b) h
  unfold clR
  split
  · have := cl_pos (b := b) 17 (nxS b L s) 0 0 n.2
    omega
  · exact ⟨Nat.le_refl s, h⟩
theorem mkR_pos {s i : Nat} {most dflt : Int32} {r : Bool × Nat × Int32} (hr : mkR b L s i most dflt = r) (h : s ≤ L) : s ≤ r.2.1 ∧ r.2.1 ≤ L := by
  rw [← hr]
  have n := nx_b (b := b) h
  have n2 := nx_b (b := b) n.2
  unfold mkR
  split
  · split
    · show s ≤ nxS b L (nxS b L s) ∧ nxS b L (nxS b L s) ≤ L; omega
    · exact n
  · exact ⟨Nat.le_refl s, h⟩
theorem fQ_pos {s : Nat} {r1 r2 : Bool × Nat × Nat} {r3 r4 r5 : Bool × Nat × Int32} (hq : fQ b L s r1 r2 r3 r4 r5) (h : s < L) : s + 1 ≤ r5.2.1 := by
  obtain ⟨e1, e2, e3, e4, e5⟩ := hq
  have a0 := nx_gt (b := b) h
  have a1 := clR_pos e1 (nx_b (by omega)).2
  have a2 := clR_pos e2 a1.2
  have a3 := mkR_pos e3 a2.2
  have a4 := mkR_pos e4 a3.2
  have a5 := mkR_pos e5 a4.2
  omega
theorem m1_no {n : Nat} (hn : n ≤ 6) : ∀ f : Nat, f < n → (-1 : Int32) ≠ nI f := fun f hf e => absurd (show nI f < 0 by rw [← e]; decide) (nI_pos (by omega))
/-- behind a fault nothing happens any more -/
theorem joinW {S : Bun} {J : Lon} {s n : Nat} {hi : Int32} (hn : n ≤ 6) (en : S 1 0 = nI n) (hS : Wg s S) {post : Bun → Prop} (h : post S) : wX6_number S J (0 : Int32) hi (fun S13 => ∀ x15 : Int32, x15 = S13 0 27 → wX6_numberHere S13 J (fun r16 => wX6_isField S13 J r16 (fun r18 => wjoin (σ := Int32) (fun y20 => wX6_needs S13 J y20 (fun S26 => (((S26 0 28) = 0 → vp_in ((38 : Int32) + x15) 56 ∧ vp_in ((38 : Int32) + x15) 56 ∧ ∀ S28 : Bun, S28 = up S26 1 ((38 : Int32) + x15).toNatClampNeg ((S26 1 ((38 : Int32) + x15).toNatClampNeg) ||| ((1 : Int32) <<< (r16 &&& 31))) → post S28) ∧ (¬ ((S26 0 28) = 0) → post S26)))) (fun J21 => ((r18 = 0 → J21 (0 : Int32)) ∧ (¬ (r18 = 0) → ((r16 = x15 → J21 (0 : Int32)) ∧ (¬ (r16 = x15) → J21 (1 : Int32))))))))) := by
  refine number6w hS ?_
  rintro _ rfl
  refine nHere6w hS (isF6' hn en (fun f hf e => absurd e (m1_no hn f hf)) (fun _ => wj (br_t rfl (needs_w hS (br_f (by rw [hS.2.1]; decide) h)))))
theorem itemW {S : Bun} {J : Lon} {s n : Nat} (hn : n ≤ 6) (en : S 1 0 = nI n) (hS : Wg s S) {post : Bun → Prop} (h : post S) : wX6_item S J post := by
  unfold wX6_item
  refine kindHere6w hS (br_t (by decide) (isWord6w (i := 0) (by decide) hS (br_t rfl (isWord6w (i := 6) (by decide) hS (needs_w hS ⟨vin0, ?_⟩)))))
  exact joinW hn en hS h
def ItK (b : Nat → Nat) (L s : Nat) (J : Lon) (P : Bun) (r : Int32) (T1 P1 : Bun) : Prop := (r = 1 ∧ ∃ s', s + 1 ≤ s' ∧ Tk b L s' T1 ∧ WF P1 ∧ ∀ S : Bun, Sy b L s S → RP P (S 1) → ∀ post : Bun → Prop, (∀ S1 : Bun, FrI S S1 → Sy b L s' S1 → RP P1 (S1 1) → post S1) → wX6_item S J post) ∨ (r = 0 ∧ ∃ s', Tk b L s' T1 ∧ ∀ S : Bun, Sy b L s S → RP P (S 1) → ∀ post : Bun → Prop, (∀ S1 : Bun, FrI S S1 → Wg s' S1 → post S1) → wX6_item S J post)
theorem fld_wf {s n : Nat} {r1 r2 : Bool × Nat × Nat} {r3 r4 r5 : Bool × Nat × Int32} {P P' : Bun} (hq : fQ b L s r1 r2 r3 r4 r5) (hn : n < 6) (en : P 0 0 = nI n) (hW : WF P) (hP : newF P P' n) : WF (fin5 r1 r2 r3 r4 r5 P' n) := by
  obtain ⟨e1, e2, e3, e4, e5⟩ := hq
  unfold fin5
  exact (((((hW.newF hn en hP).mark hn (by decide) (clR_ok (by decide) e1)).mark hn (by decide) (clR_ok (by decide) e2)).mark hn (by decide) (mkR_ok (w := 2) (by decide) (by decide) e3)).mark hn (by decide) (mkR_ok (w := 3) (by decide) (by decide) e4)).mark hn (by decide) (mkR_ok (w := 4) (by decide) (by decide) e5)
theorem item_k {T P : Bun} {J : Lon} {s : Nat} (hT : Tk b L s T) (hW : WF P) {posT : Int32 → Bun → Bun → Prop} (hh : ∀ (r : Int32) (T1 P1 : Bun), ItK b L s J P r T1 P1 → posT r T1 P1) : wX4_takeItem T P posT := by
  obtain ⟨n, hn, en⟩ := hW.1
  obtain ⟨m, hm, em⟩ := hW.2.1
  have sL := hT.2.1
  have e1I : (1 : Int32).toInt = 1 := rfl
  unfold wX4_takeItem
  refine isWord5 (i := 0) (by decide) hT (br_b (fun a0 => ?_) (fun a0 => ?_))
  · refine isWord5 (i := 6) (by decide) hT (br_b (fun a6 => ?_) (fun a6 => ?_))
    · refine kindIn5 hT ?_
      cases hk : kwN b L s with
      | none =>
        refine br_t (by decide) (hh _ _ _ <| Or.inr ⟨rfl, s, hT, fun S hS hR post hp => ?_⟩)
        have es : S 1 0 = nI n := hR.1.trans en
        unfold wX6_item
        refine kindHere6 hS ?_
        rw [hk]
        refine br_t (by decide) (isWord6 (i := 0) (by decide) hS ?_)
        rw [a0]
        refine br_t rfl (isWord6 (i := 6) (by decide) hS ?_)
        rw [a6]
        refine needs_f hS (fun S9 v9 w9 => ⟨vin0, ?_⟩)
        exact joinW (n := n) hn (by rw [v9.1 1 (by decide)]; exact es) w9 (hp _ v9.i w9)
      | some k =>
        obtain ⟨k6, wk⟩ := kw_lt hk
        have slt := (wd_kd (by omega) sL wk).2
        have n1 := nx_gt (b := b) slt
        refine br_f (nI_pos (by omega)) ?_
        -- the model, up to the team
        have mh : ∀ {S : Bun} (hS : Sy b L s S) {post : Bun → Prop}, (vp_in (1 : Int32) 56 ∧ wjoin (σ := Int32) (fun y37 => wX6_needs S J y37 (fun S43 => wX6_isWord S43 J (112 : Int32) (97 : Int32) (99 : Int32) (101 : Int32) (0 : Int32) (0 : Int32) (0 : Int32) (fun r45 => wjoin (σ := Int32 × Bun) (fun z => match z with | (x47, S48) => (((S48 0 28) = 0 → wX6_newTeam S48 J (nI k) x47 (fun r52 S54 => post S54)) ∧ (¬ ((S48 0 28) = 0) → post S48))) (fun J49 => ((r45 = 0 → J49 ((1 : Int32), S43)) ∧ (¬ (r45 = 0) → wX6_needs S43 J (1 : Int32) (fun S59 => wX6_number S59 J (1 : Int32) (9 : Int32) (fun S63 => ∀ x65 : Int32, x65 = S63 0 27 → J49 (x65, S63))))))))) (fun J38 => (((6 : Int32) ≤ (S 1 (1 : Int32).toNatClampNeg) → J38 (0 : Int32)) ∧ (¬ ((6 : Int32) ≤ (S 1 (1 : Int32).toNatClampNeg)) → J38 (1 : Int32))))) → wX6_item S J post := by
          intro S hS post hp
          unfold wX6_item
          refine kindHere6 hS ?_
          rw [hk]
          exact br_f (nI_pos (by omega)) hp
        unfold wX4_takeTeam
        rw [em]
        refine ⟨fun z => ?_, fun z => ?_⟩
        · have m6 : m < 6 := (nI_ltI (b := 6) (by omega) (by decide)).mp z
          refine hT.to (fun T3 hT3 => isWord5 (i := 13) (by decide) hT3 (wj (br_b (fun ap => ?_) (fun ap => ?_))))
          · -- no pace
            refine addTeam5 m6 em (br_f (by decide) (hh _ _ _ <| Or.inl ⟨rfl, nxS b L s, n1, hT3, hW.teamN em m6 k6 ⟨Nat.le_refl 1, by decide⟩, fun S hS hR post hp => ?_⟩))
            have ms : S 1 1 = nI m := hR.2.1.trans em
            refine mh hS ⟨vin1, wj (br_f (by rw [c1', ms]; exact nI_ge (b := 6) m6 (by decide)) (needs_t hS (fun S43 v43 _ y43 => isWord6 (i := 13) (by decide) y43 ?_)))⟩
            rw [ap]
            refine wj (br_t rfl (br_t y43.2.2.2.2 (newTeam6 m6 (by rw [v43.1 1 (by decide)]; exact ms) (fun _ => hp _ ?_ ?_ ?_))))
            · unfold newT6; exact fri_1 (fri_1 (fri_1 v43.i))
            · unfold newT6; exact ((y43.one).one).one
            · exact RP.teamN (S := S43) (by rw [v43.1 1 (by decide)]; exact hR) m6 _ _
          · -- a pace
            refine hT3.to (fun T16 hT16 => isNumber5 (lo := 1) hT16 (by decide) (br_b (fun y => ?_) (fun y => ?_)))
            · refine br_t rfl (hh _ _ _ <| Or.inr ⟨rfl, _, hT16, fun S hS hR post hp => ?_⟩)
              have ms : S 1 1 = nI m := hR.2.1.trans em
              refine (mh hS ⟨vin1, wj (br_f (by rw [c1', ms]; exact nI_ge (b := 6) m6 (by decide)) (needs_t hS (fun S43 v43 _ y43 => isWord6 (i := 13) (by decide) y43 ?_)))⟩)
              rw [ap]
              refine wj (br_f (by decide) (needs_t y43 (fun S59 v59 _ y59 => number6 (lo := 1) y59 (by decide) (by decide) (fun y2 => by rw [y] at y2; exact absurd y2 (by decide)) (fun _ S63 v63 w63 => ?_))))
              rintro _ rfl
              exact br_f (by rw [w63.2.1]; decide) (hp _ ((v43.tr v59).tr v63).i w63)
            · obtain ⟨c1, c2, c3, c4⟩ := vC_M (by decide) y
              have c4' : (vC b L (nxS b L (nxS b L s)) : Int) ≤ 9 := c4
              rw [hT16.2.2.2.2.2 c2]
              rintro _ rfl
              have b2 := nx_b (b := b) (s := nxS b L s) hT3.2.1
              have b3 := nx_b (b := b) (s := nxS b L (nxS b L s)) hT16.2.1
              refine hT16.to (fun T22 hT22 => addTeam5 m6 em (br_f (by decide) (hh _ _ _ <| Or.inl ⟨rfl, _, by omega, hT22, hW.teamN em m6 k6 ⟨c3, (by omega : vC b L (nxS b L (nxS b L s)) ≤ 9)⟩, fun S hS hR post hp => ?_⟩)))
              have ms : S 1 1 = nI m := hR.2.1.trans em
              refine mh hS ⟨vin1, wj (br_f (by rw [c1', ms]; exact nI_ge (b := 6) m6 (by decide)) (needs_t hS (fun S43 v43 _ y43 => isWord6 (i := 13) (by decide) y43 ?_)))⟩
              rw [ap]
              refine wj (br_f (by decide) (needs_t y43 (fun S59 v59 _ y59 => number6 (lo := 1) y59 (by decide) (by decide) (fun _ S63 v63 e63 y63 => ?_) (fun y2 => by rw [y] at y2; exact absurd y2 (by decide)))))
              rw [e63]
              rintro _ rfl
              have fr := (v43.tr v59).tr v63
              refine br_t y63.2.2.2.2 (newTeam6 m6 (by rw [fr.1 1 (by decide)]; exact ms) (fun _ => hp _ ?_ ?_ ?_))
              · unfold newT6; exact fri_1 (fri_1 (fri_1 fr.i))
              · unfold newT6; exact ((y63.one).one).one
              · exact RP.teamN (S := S63) (by rw [fr.1 1 (by decide)]; exact hR) m6 _ _
        · have m6 : m = 6 := by
            rcases Nat.lt_or_ge m 6 with h | h
            · exact absurd (nI_lt (b := 6) h (by decide)) z
            · omega
          refine br_t rfl (hh _ _ _ <| Or.inr ⟨rfl, s, hT, fun S hS hR post hp => mh hS ⟨vin1, wj (br_t (by rw [c1', hR.2.1.trans em, m6]; decide) (needs_f hS (fun S43 v43 w43 => isWord6w (i := 13) (by decide) w43 (wj (br_t rfl (br_f (by rw [w43.2.1]; decide) (hp _ v43.i w43)))))))⟩⟩)
    · -- join
      have slt := (wd_kd (by decide) sL a6).2
      have n1 := nx_gt (b := b) slt
      have hi5 : (nI n - (1 : Int32)).toInt = (n : Int) - 1 := pk_sub_toInt (b := 1) (by omega) (by decide)
      have hi9 : (nI n - (1 : Int32)).toInt ≤ 999 := by omega
      have mh : ∀ {S : Bun} (hS : Sy b L s S) (es : S 1 0 = nI n) {post : Bun → Prop}, (∀ S9 : Bun, FrP S S9 → Sy b L (nxS b L s) S9 → wX6_number S9 J (0 : Int32) (nI n - (1 : Int32)) (fun S13 => ∀ x15 : Int32, x15 = S13 0 27 → wX6_numberHere S13 J (fun r16 => wX6_isField S13 J r16 (fun r18 => wjoin (σ := Int32) (fun y20 => wX6_needs S13 J y20 (fun S26 => (((S26 0 28) = 0 → vp_in ((38 : Int32) + x15) 56 ∧ vp_in ((38 : Int32) + x15) 56 ∧ ∀ S28 : Bun, S28 = up S26 1 ((38 : Int32) + x15).toNatClampNeg ((S26 1 ((38 : Int32) + x15).toNatClampNeg) ||| ((1 : Int32) <<< (r16 &&& 31))) → post S28) ∧ (¬ ((S26 0 28) = 0) → post S26)))) (fun J21 => ((r18 = 0 → J21 (0 : Int32)) ∧ (¬ (r18 = 0) → ((r16 = x15 → J21 (0 : Int32)) ∧ (¬ (r16 = x15) → J21 (1 : Int32)))))))))) → wX6_item S J post := by
        intro S hS es post hp
        unfold wX6_item
        refine kindHere6 hS ?_
        rw [kw_none (i := 6) (by decide) a6]
        refine br_t (by decide) (isWord6 (i := 0) (by decide) hS ?_)
        rw [a0]
        refine br_t rfl (isWord6 (i := 6) (by decide) hS ?_)
        rw [a6]
        refine needs_t hS (fun S9 v9 _ y9 => ⟨vin0, ?_⟩)
        rw [c0', v9.1 1 (by decide), es]
        exact hp S9 v9 y9
      unfold wX4_takeJoin
      rw [en]
      refine hT.to (fun T3 hT3 => isNumber5 (lo := 0) hT3 (by decide) (br_b (fun y => ⟨zb0, hh _ _ _ <| Or.inr ⟨rfl, _, hT3, fun S hS hR post hp => ?_⟩⟩) (fun y => ?_)))
      · have es : S 1 0 = nI n := hR.1.trans en
        refine mh hS es (fun S9 v9 y9 => number6 (lo := 0) y9 (by decide) hi9 (fun y2 => by rw [y] at y2; exact absurd y2 (by decide)) (fun _ S13 v13 w13 => ?_))
        have e13 : S13 1 0 = nI n := by rw [v13.1 1 (by decide), v9.1 1 (by decide)]; exact es
        rintro _ rfl
        refine nHere6w w13 (isF6' hn e13 (fun f hf e => absurd e (m1_no hn f hf)) (fun _ => wj (br_t rfl (needs_w w13 (br_f (by rw [w13.2.1]; decide) (hp _ (v9.tr v13).i w13))))))
      · obtain ⟨c1, c2, c3, c4⟩ := vC_M hi9 y
        rw [hi5] at c4
        rw [hT3.2.2.2.2.2 c2]
        rintro _ rfl
        have q1 : nI (vcN b (nxS b L s) (tE b L (nxS b L s) - nxS b L s)) = nI (vC b L (nxS b L s)) := rfl
        rw [q1]
        have b2 := nx_b (b := b) (s := nxS b L s) hT3.2.1
        have b3 := nx_b (b := b) (s := nxS b L (nxS b L s)) b2.2
        -- the model, behind the first number
        have mh2 : ∀ {S : Bun} (hS : Sy b L s S) (es : S 1 0 = nI n) {post : Bun → Prop}, (∀ S13 : Bun, FrP S S13 → Sy b L (nxS b L (nxS b L s)) S13 → S13 0 27 = nI (vC b L (nxS b L s)) → wX6_numberHere S13 J (fun r16 => wX6_isField S13 J r16 (fun r18 => wjoin (σ := Int32) (fun y20 => wX6_needs S13 J y20 (fun S26 => (((S26 0 28) = 0 → vp_in ((38 : Int32) + nI (vC b L (nxS b L s))) 56 ∧ vp_in ((38 : Int32) + nI (vC b L (nxS b L s))) 56 ∧ ∀ S28 : Bun, S28 = up S26 1 ((38 : Int32) + nI (vC b L (nxS b L s))).toNatClampNeg ((S26 1 ((38 : Int32) + nI (vC b L (nxS b L s))).toNatClampNeg) ||| ((1 : Int32) <<< (r16 &&& 31))) → post S28) ∧ (¬ ((S26 0 28) = 0) → post S26)))) (fun J21 => ((r18 = 0 → J21 (0 : Int32)) ∧ (¬ (r18 = 0) → ((r16 = nI (vC b L (nxS b L s)) → J21 (0 : Int32)) ∧ (¬ (r16 = nI (vC b L (nxS b L s))) → J21 (1 : Int32))))))))) → wX6_item S J post := by
          intro S hS es post hp
          refine mh hS es (fun S9 v9 y9 => number6 (lo := 0) y9 (by decide) hi9 (fun _ S13 v13 e13 y13 => ?_) (fun y2 => by rw [y] at y2; exact absurd y2 (by decide)))
          have := hp S13 (v9.tr v13) y13 e13
          rw [e13]
          rintro _ rfl
          exact this
        have bad : (nmB b L (nxS b L (nxS b L s)) 0 (nI n - 1) = false ∨ vC b L (nxS b L (nxS b L s)) = vC b L (nxS b L s)) → ∀ T9 : Bun, Tk b L (nxS b L (nxS b L s)) T9 → ItK b L s J P 0 T9 P := by
          intro hb T9 hT9
          refine Or.inr ⟨rfl, _, hT9, fun S hS hR post hp => ?_⟩
          have es : S 1 0 = nI n := hR.1.trans en
          refine mh2 hS es (fun S13 v13 y13 e13 => ?_)
          have f13 : S13 1 0 = nI n := by rw [v13.1 1 (by decide)]; exact es
          have fault : wX6_needs S13 J 0 (fun S26 => (((S26 0 28) = 0 → vp_in ((38 : Int32) + nI (vC b L (nxS b L s))) 56 ∧ vp_in ((38 : Int32) + nI (vC b L (nxS b L s))) 56 ∧ ∀ S28 : Bun, S28 = up S26 1 ((38 : Int32) + nI (vC b L (nxS b L s))).toNatClampNeg ((S26 1 ((38 : Int32) + nI (vC b L (nxS b L s))).toNatClampNeg) ||| ((1 : Int32) <<< (nI (vM b L (nxS b L (nxS b L s))) &&& 31))) → post S28) ∧ (¬ ((S26 0 28) = 0) → post S26))) := needs_f y13 (fun S26 v26 w26 => br_f (by rw [w26.2.1]; decide) (hp _ (v13.tr v26).i w26))
          refine nHere6 y13 (fun k2 => ?_) (fun k2 => ?_)
          · have vr := v_rel b (nxS b L (nxS b L s)) _ (v_dig k2)
            have vm9 : vM b L (nxS b L (nxS b L s)) ≤ 9999 := by unfold vM; omega
            refine isF6' hn f13 (fun f hf e => wj (br_f (by decide) ?_)) (fun _ => wj (br_t rfl fault))
            have ef : vM b L (nxS b L (nxS b L s)) = f := (nI_eq (by omega) (by omega)).mp e
            have nm : nmB b L (nxS b L (nxS b L s)) 0 (nI n - 1) = true := by
              unfold nmB
              rw [beq_iff_eq.mpr k2, Bool.true_and, hi5]
              refine decide_eq_true ?_
              unfold vC
              unfold vM at ef
              rcases vr with ⟨i1, i2⟩ | ⟨i1, i2, i3⟩
              · rw [i2]; omega
              · omega
            rcases hb with hb | hb
            · rw [nm] at hb; exact absurd hb (by decide)
            · have cm := (vC_M hi9 nm).1
              exact br_t (by rw [← hb, cm]) fault
          · refine isF6' hn f13 (fun f hf e => absurd e (m1_no hn f hf)) (fun _ => wj (br_t rfl ?_))
            exact needs_f y13 (fun S26 v26 w26 => br_f (by rw [w26.2.1]; decide) (hp _ (v13.tr v26).i w26))
        refine hT3.to (fun T9 hT9 => isNumber5 (lo := 0) hT9 (by decide) (br_b (fun y2 => ⟨zb0, hh _ _ _ (bad (Or.inl y2) T9 hT9)⟩) (fun y2 => ?_)))
        obtain ⟨d1, d2, d3, d4⟩ := vC_M hi9 y2
        rw [hi5] at d4
        have q2 : T9 0 5 = nI (vC b L (nxS b L (nxS b L s))) := hT9.2.2.2.2.2 d2
        rw [q2, show nI (vC b L (nxS b L (nxS b L s))) = nI (vC b L (nxS b L s)) ↔ vC b L (nxS b L (nxS b L s)) = vC b L (nxS b L s) from nI_eq (by omega) (by omega)]
        refine ⟨fun e => ⟨zb0, hh _ _ _ (bad (Or.inr e) T9 hT9)⟩, fun e => ?_⟩
        have v6 : vC b L (nxS b L s) < 6 := by omega
        have u6 : vC b L (nxS b L (nxS b L s)) < 6 := by omega
        obtain ⟨j, hj, ej⟩ := six_of (hW.2.2.2.1 _ v6).1 (hW.2.2.2.1 _ v6).2
        have or6 := (or_64 j hj _ u6).1
        rw [tn_nI (by omega), ej, or6]
        refine ⟨vp_in_nI v6 (by decide), vp_in_nI v6 (by decide), ?_⟩
        rintro _ rfl
        have lt64 : j ||| 2 ^ vC b L (nxS b L (nxS b L s)) < 64 := Nat.or_lt_two_pow (n := 6) hj (Nat.pow_lt_pow_right (by decide) u6)
        refine hT9.to (fun T15 hT15 => ⟨zb1, hh _ _ _ <| Or.inl ⟨rfl, _, by omega, hT15, hW.joins (by rw [nI_toInt (by omega)]; omega), fun S hS hR post hp => ?_⟩⟩)
        have es : S 1 0 = nI n := hR.1.trans en
        refine mh2 hS es (fun S13 v13 y13 e13 => ?_)
        have f13 : S13 1 0 = nI n := by rw [v13.1 1 (by decide)]; exact es
        refine nHere6 y13 (fun k2 => ?_) (fun k2 => absurd d2 k2)
        rw [← d1]
        refine isF6' hn f13 (fun f hf ef => wj (br_f (by decide) (br_f (fun z => e ((nI_eq (by omega) (by omega)).mp z)) (needs_t y13 (fun S26 v26 _ y26 => ?_))))) (fun no => absurd rfl (no (vC b L (nxS b L (nxS b L s))) (by omega)))
        have fr := v13.tr v26
        have sj : S26 1 (38 + vC b L (nxS b L s)) = nI j := by rw [fr.1 1 (by decide)]; exact (hR.2.2.2.1 _ v6).trans ej
        rw [show (38 : Int32) + nI (vC b L (nxS b L s)) = nI (38 + vC b L (nxS b L s)) from nI_add 38 _, tn_nI (by omega), sj, or6]
        refine br_t y26.2.2.2.2 ⟨vp_in_nI (by omega) (by decide), vp_in_nI (by omega) (by decide), ?_⟩
        rintro _ rfl
        refine hp _ (fri_1 fr.i) y26.one ?_
        exact RP.joins (S := S26) (by rw [fr.1 1 (by decide)]; exact hR) v6 _
  · -- a field
    have slt := (wd_kd (by decide) sL a0).2
    have mh : ∀ {S : Bun} (hS : Sy b L s S) {post : Bun → Prop}, wX6_fieldItem S J (fun S34 => post S34) → wX6_item S J post := by
      intro S hS post hp
      unfold wX6_item
      refine kindHere6 hS ?_
      rw [kw_none (i := 0) (by decide) a0]
      refine br_t (by decide) (isWord6 (i := 0) (by decide) hS ?_)
      rw [a0]
      exact br_f (by decide) hp
    obtain ⟨r1, e1⟩ : ∃ r, clR b L (nxS b L s) 1 = r := ⟨_, rfl⟩
    obtain ⟨r2, e2⟩ : ∃ r, clR b L r1.2.1 2 = r := ⟨_, rfl⟩
    obtain ⟨r3, e3⟩ : ∃ r, mkR b L r2.2.1 3 (tbMost 2) (-1) = r := ⟨_, rfl⟩
    obtain ⟨r4, e4⟩ : ∃ r, mkR b L r3.2.1 4 (tbMost 3) (-1) = r := ⟨_, rfl⟩
    obtain ⟨r5, e5⟩ : ∃ r, mkR b L r4.2.1 5 (tbMost 4) 0 = r := ⟨_, rfl⟩
    have hq : fQ b L s r1 r2 r3 r4 r5 := ⟨e1, e2, e3, e4, e5⟩
    by_cases n6 : n < 6
    · refine takeField5 hq n6 en hT (fun ok T' P' hT' hP' => ⟨zb1, hh _ _ _ <| Or.inl ⟨rfl, r5.2.1, fQ_pos hq slt, hT', fld_wf hq n6 en hW hP', fun S hS hR post hp => mh hS (fieldItem6 hq n6 (hR.1.trans en) hS (fun _ S' S43 v y nw => ?_) (fun s' e => by rw [ok] at e; cases e))⟩⟩) (fun s' bd T' P'' hT' => ⟨zb0, hh _ _ _ <| Or.inr ⟨rfl, s', hT', fun S hS hR post hp => mh hS (fieldItem6 hq n6 (hR.1.trans en) hS (fun e => by rw [bd] at e; cases e) (fun s2 e S' v w => ?_))⟩⟩)
      · have fo := fld_ok hq n6 en hW (S := S') (by rw [v.1 1 (by decide)]; exact hR) hP' nw
        have fr43 : FrI S S43 := ⟨fun r a c => by rw [nw.1 r c]; exact v.1 r a, fun k a b c d => by rw [nw.1 0 (by decide)]; exact v.2 k a b c d⟩
        have y43 : Sy b L r5.2.1 S43 := by
          obtain ⟨⟨m1, m2, m3, m4⟩, c1, c2, c3, c4⟩ := y
          exact ⟨⟨by rw [nw.1 0 (by decide)]; exact m1, by rw [nw.1 24 (by decide)]; exact m2, m3, m4⟩, c1, by rw [nw.1 0 (by decide)]; exact c2, by rw [nw.1 0 (by decide)]; exact c3, by rw [nw.1 0 (by decide)]; exact c4⟩
        refine hp _ ?_ ?_ fo.2
        · unfold fin6; exact fri_1 (fri_1 (fri_1 (fri_1 (fri_1 fr43))))
        · unfold fin6; exact ((((y43.one).one).one).one).one
      · rw [bd] at e
        obtain rfl := Option.some.inj e
        exact hp _ v.i w
    · obtain rfl : n = 6 := by omega
      unfold wX4_takeField
      rw [en]
      exact br_f (by decide) ⟨zb0, hh _ _ _ <| Or.inr ⟨rfl, s, hT, fun S hS hR post hp => mh hS (fieldItem6f (hR.1.trans en) hS (fun S' v w => hp _ v.i w))⟩⟩
end
