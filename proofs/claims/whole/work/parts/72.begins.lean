/-! the model's search: begins -/
section
theorem direction6 {i : Nat} (hi : i < 4) {post : Int32 → Prop} (h : post (nI (dirN i))) : wX6_direction (nI i) post := by
  unfold wX6_direction
  match i, hi, h with
  | 0, _, h => exact br_t rfl h
  | 1, _, h => exact br_f (by decide) (br_t rfl h)
  | 2, _, h => exact br_f (by decide) (br_f (by decide) (br_t rfl h))
  | 3, _, h => exact br_f (by decide) (br_f (by decide) (br_f (by decide) h))
theorem bI_n (b : Bool) : bI b = nI (bN b) := by cases b <;> rfl
theorem turnj2 {b : Option Nat} {d : Nat} {V : Prop} (hV : V) (hb : dOk b) (hd : d < 4) {rest : Int32 → Prop} (h : rest (bI (turnN b d))) : wjoin rest (fun J => ((gI b < 0 → J 0) ∧ (¬ (gI b < 0) → V ∧ ((gI b = nI d → J 0) ∧ (¬ (gI b = nI d) → J 1))))) := by
  have := turn5 hb hd h
  unfold wX5_isTurn at this
  exact wj ⟨this.1, fun z => ⟨hV, this.2 z⟩⟩
theorem n_pred {n : Nat} (h : 1 ≤ n) : nI n - (1 : Int32) = nI (n - 1) := by
  obtain ⟨m, rfl⟩ : ∃ m, n = m + 1 := ⟨n - 1, by omega⟩
  exact nI_pred m
theorem n_dec {n : Nat} (h : 1 ≤ n) : nI n + (-1 : Int32) = nI (n - 1) := by
  rw [← n_pred h]
  exact (Int32.sub_eq_add_neg (nI n) 1).symm
theorem wj_tn {rest : Int32 → Prop} {n tu : Nat} {tt : Bool} {S : Bun} (hn : 1 ≤ n) (hn16 : n ≤ 16) (htu : tu < 100) (h1 : n = 1 → tt = false) (h9 : S 9 (n - 1) = nI tu) (h2 : 2 ≤ n → ∃ tp, S 9 (n - 2) = nI tp ∧ tu = tp + bN tt) (h : rest (bI tt)) : wjoin rest (fun J28 => ((nI (n - 1) ≤ 0 → J28 (0 : Int32)) ∧ (¬ (nI (n - 1) ≤ 0) → vp_in (nI (n - 1)) 16 ∧ vp_in (nI (n - 1) - (1 : Int32)) 16 ∧ (((S 9 (n - 1)) ≤ (S 9 (nI (n - 1) - (1 : Int32)).toNatClampNeg) → J28 (0 : Int32)) ∧ (¬ ((S 9 (n - 1)) ≤ (S 9 (nI (n - 1) - (1 : Int32)).toNatClampNeg)) → J28 (1 : Int32)))))) := by
  refine wj ?_
  by_cases e : n = 1
  · rw [h1 e] at h
    exact br_t (by rw [e]; decide) h
  · obtain ⟨tp, e9, et⟩ := h2 (by omega)
    rw [n_pred (by omega), tn_nI (by omega), show n - 1 - 1 = n - 2 by omega, h9, e9]
    refine br_f (nI_nle (by omega) (by omega)) ⟨vp_in_nI (by omega) (by decide), vp_in_nI (by omega) (by decide), ?_⟩
    have := bN_le tt
    rw [show nI tu ≤ nI tp ↔ tu ≤ tp from nI_leI (by omega) (by omega)]
    cases tt with
    | false => exact br_t (by rw [et]; exact Nat.le_refl _) h
    | true => exact br_f (by rw [et]; show ¬ tp + 1 ≤ tp; omega) h
theorem msk_c {E L x : Nat} {U : Int32} (hE : E < 65536) (hL : L < 65536) (hU : nI E &&& (U ^^^ (-1)) = nI L) (hx : x < 16) (hl : L.testBit x = true) : nI E &&& ((U ||| bitI x) ^^^ (-1)) = nI (delN L x) ∧ (U ||| bitI x) &&& (bitI x ^^^ (-1)) = U := by
  have hb : ∀ i, i < 32 → (E.testBit i && !bt U i) = L.testBit i := by
    intro i hi
    have := congrArg (fun z => bt z i) hU
    simp only [b_and, b_xor, b_m1 i hi, bt_nI hi] at this
    rw [← this]
    cases bt U i <;> rfl
  have hx0 : bt U x = false := by
    have := hb x (by omega)
    rw [hl, Bool.and_eq_true] at this
    cases q : bt U x with
    | false => rfl
    | true => rw [q] at this; exact absurd this.2 (by decide)
  constructor
  · refine b_ext (fun i hi => ?_)
    rw [b_and, b_xor, b_or, b_m1 i hi, bitI_b hx hi, bt_nI hi, bt_nI hi, del_bit hL, ← hb i hi]
    by_cases e : i = x
    · rw [if_pos e, decide_eq_true e, Bool.or_true]; simp
    · rw [if_neg e, decide_eq_false e, Bool.or_false]; cases bt U i <;> rfl
  · refine b_ext (fun i hi => ?_)
    rw [b_and, b_xor, b_or, b_m1 i hi, bitI_b hx hi]
    by_cases e : i = x
    · rw [decide_eq_true e, e, hx0]; rfl
    · rw [decide_eq_false e]; cases bt U i <;> rfl
theorem begins6 {S0 : Bun} {J : Lon} {t f K T E s : Nat} {i o : Option Nat} (ht : t < 6) (hf : f < 6) (hK : K < 6) (hT : T < 65536) (hE : E < 65536) (ho : gOk o) (hQ : Q6 S0 t f K T E i o) (hs : E.testBit s = true) {Ls : List Nod} (hR : RM (cdN E) o Ls S0) {post : Bun → Prop} (h : ∀ S' : Bun, Fr S0 S' → RM (cdN E) o (Ls ++ nds K (bsN K T) 17 1 (fun _ => s) (delN E s) s none false 0) S' → post S') : wX6_begins S0 J (nI t) (nI f) (nI s) post := by
  have hs16 := bit_hi hE hs
  have cd := del_cd hE hs16 hs
  have cE := cd_le E
  have v0 : vp_in (0 : Int32) 16 := by unfold vp_in; decide
  unfold wX6_begins
  refine earth6 hf ?_
  rw [hQ.2.2.1]
  rintro _ rfl
  refine ⟨v0, ?_⟩
  rintro _ rfl
  refine ⟨v0, ?_⟩
  rintro _ rfl
  refine ⟨v0, ?_⟩
  rintro _ rfl
  refine ⟨v0, ?_⟩
  rintro _ rfl
  have fr0 : Fr S0 (up (up (up (up S0 6 0 (nI s)) 7 0 (-1)) 8 0 0) 9 0 0) := ((((Fr.rfl' S0).up (by decide)).up (by decide)).up (by decide)).up (by decide)
  refine reaches6 (n := 1) (tu := 0) (w := fun _ => s) (M := cdN E) hf hE ho (hQ.fr fr0) rfl (hR.same (by rw [up_k (by decide), up_k (by decide), up_k (by decide), up_k (by decide)]) (by rw [up_k (by decide), up_k (by decide), up_k (by decide), up_k (by decide)])) (Nat.le_refl 1) (by decide) (fun k hk => ?_) (fun _ _ => hs16) (by decide) up_ss (fun S10 u1 u2 u3 => ?_)
  · obtain rfl : k = 0 := by omega
    rw [up_k (by decide), up_k (by decide), up_k (by decide)]; exact up_ss
  intro P hP
  have core : ∀ (d n : Nat) (w : Nat → Nat) (L c : Nat) (b : Option Nat) (tt : Bool) (tu : Nat) (U : Int32) (S : Bun) (Ls : List Nod), d + n = 18 → 1 ≤ n → n ≤ 16 → L < 65536 → c < 16 → dOk b → n + cdN L = cdN E → w (n - 1) = c → (∀ k, k < n → w k < 16) → tu < n → nI E &&& (U ^^^ (-1)) = nI L → Fr S0 S → (∀ k, k < n → S 6 k = nI (w k)) → S 7 (n - 1) = gI b → S 8 (n - 1) = 0 → S 9 (n - 1) = nI tu → (n = 1 → tt = false) → (2 ≤ n → ∃ tp, S 9 (n - 2) = nI tp ∧ tu = tp + bN tt) → RM (cdN E) o (Ls ++ [(n, w, tu)]) S → (∀ S' : Bun, Fr S0 S' → (∀ r, r = 6 ∨ r = 7 ∨ r = 8 ∨ r = 9 → ∀ k, k < n - 1 → S' r k = S r k) → RM (cdN E) o (Ls ++ nds K (bsN K T) d n w L c b tt tu) S' → P (U &&& (bitI c ^^^ (-1)), nI (n - 1), S')) → P (U, nI n, S) := by
    intro d
    induction d with
    | zero => intro n w L c b tt tu U S Ls hd h1 h2; omega
    | succ d ih =>
      intro n w L c b tt tu U S Ls hd hn hn16 hL hc hb hM hw hw16 htu hU hFr s6 s7 s8 s9 t1 t2 hRM cont
      have vn : vp_in (nI (n - 1)) 16 := vp_in_nI (by omega) (by decide)
      have inner : ∀ (j i : Nat) (S' : Bun), i + j = 4 → Fr S0 S' → (∀ k, k < n → S' 6 k = nI (w k)) → S' 7 (n - 1) = gI b → S' 8 (n - 1) = nI i → S' 9 (n - 1) = nI tu → (∀ r, r = 6 ∨ r = 7 ∨ r = 8 ∨ r = 9 → ∀ k, k < n - 1 → S' r k = S r k) → RM (cdN E) o (Ls ++ ((n, w, tu) :: catTo (kid K (bsN K T) d n w L c b tt tu) i)) S' → P (U, nI n, S') := by
        intro j
        induction j with
        | zero =>
          intro i S' hij f1 f6 f7 f8 f9 fk fR
          obtain rfl : i = 4 := by omega
          refine hP (U, nI n, S') ⟨fun z => absurd z (nI_nle (by omega) (by omega)), fun z => ?_⟩
          rw [n_pred hn]
          rintro _ rfl
          rw [tn_nI (n := n - 1) (by omega)]
          refine ⟨vn, fun z4 => ⟨vn, ?_⟩, fun z4 => absurd (by rw [f8]; rfl) z4⟩
          rw [f6 (n - 1) (by omega), hw]
          rintro _ rfl _ rfl
          rw [n_dec hn]
          exact cont S' f1 fk (by rw [nds_succ]; exact fR)
        | succ j ihj =>
          intro i S' hij f1 f6 f7 f8 f9 fk fR
          have hlt : i < 4 := by omega
          refine hP (U, nI n, S') ⟨fun z => absurd z (nI_nle (by omega) (by omega)), fun z => ?_⟩
          rw [n_pred hn]
          rintro _ rfl
          rw [tn_nI (n := n - 1) (by omega), f8]
          refine ⟨vn, fun z4 => absurd ((nI_eq (b := 4) (by omega) (by decide)).mp z4) (by omega), fun z4 => ⟨vn, direction6 hlt ⟨vn, vn, ?_⟩⟩⟩
          rintro _ rfl
          rw [show nI i + (1 : Int32) = nI (i + 1) from nI_1 i]
          have g1 : Fr S0 (up S' 8 (n - 1) (nI (i + 1))) := f1.up (by decide)
          have g6 : up S' 8 (n - 1) (nI (i + 1)) 6 = S' 6 := up_k (by decide)
          have g7 : up S' 8 (n - 1) (nI (i + 1)) 7 = S' 7 := up_k (by decide)
          have g8 : up S' 8 (n - 1) (nI (i + 1)) 8 (n - 1) = nI (i + 1) := up_ss
          have g8o : ∀ k, k ≠ n - 1 → up S' 8 (n - 1) (nI (i + 1)) 8 k = S' 8 k := fun k hk => up_ki hk
          have g9 : up S' 8 (n - 1) (nI (i + 1)) 9 = S' 9 := up_k (by decide)
          have gR : RM (cdN E) o (Ls ++ ((n, w, tu) :: catTo (kid K (bsN K T) d n w L c b tt tu) i)) (up S' 8 (n - 1) (nI (i + 1))) := fR.same (up_k (by decide)) (up_k (by decide))
          generalize up S' 8 (n - 1) (nI (i + 1)) = S24 at g1 g6 g7 g8 g8o g9 gR
          have gk : ∀ r, r = 6 ∨ r = 7 ∨ r = 8 ∨ r = 9 → ∀ k, k < n - 1 → S24 r k = S r k := by
            intro r hr k hk
            rw [← fk r hr k hk]
            rcases hr with rfl | rfl | rfl | rfl
            · rw [g6]
            · rw [g7]
            · exact g8o k (by omega)
            · rw [g9]
          refine ⟨vn, ?_⟩
          rw [g6, g7, f6 (n - 1) (by omega), hw, f7]
          refine beside6 hc (dir_lt i) ?_
          refine wj_tn (tu := tu) (tt := tt) hn hn16 (by omega) t1 (by rw [g9]; exact f9) (fun h2 => ?_) ?_
          · obtain ⟨tp, e1, e2⟩ := t2 h2
            exact ⟨tp, by rw [gk 9 (by decide) (n - 2) (by omega)]; exact e1, e2⟩
          have skip : nxt K (bsN K T) L c b tt i = none → P (U, nI n, S24) := by
            intro hx
            refine ihj (i + 1) S24 (by omega) g1 (by rw [g6]; exact f6) (by rw [g7]; exact f7) g8 (by rw [g9]; exact f9) gk ?_
            have e : catTo (kid K (bsN K T) d n w L c b tt tu) (i + 1) = catTo (kid K (bsN K T) d n w L c b tt tu) i := by
              show catTo (kid K (bsN K T) d n w L c b tt tu) i ++ kid K (bsN K T) d n w L c b tt tu i = _
              rw [kid_none hx, List.append_nil]
            rw [e]; exact gR
          cases hnb : nbN c (dirN i) with
          | none => exact br_t (by decide) (skip (nxt_n hnb))
          | some x =>
            have hx16 := nb_lt hc (dir_lt i) hnb
            rw [hU]
            refine br_f (nI_pos (by omega)) (has_b (by omega) (fun hl => br_f (by decide) ⟨vn, ?_⟩) (fun hl => br_t rfl ?_))
            · rw [bt_nI (by omega)] at hl
              have Q24 := hQ.fr g1
              refine mayGo6 (near := (bsN K T).testBit x) ht hK Q24.1 hb (dir_lt i) (fun k4 pp hpp => byTree6 hf hx16 Q24.2.1 ?_) ?_
              · rw [← cbN_bit hT hx16]
                have : bsN K T = cbN T := if_pos k4
                rw [← this]; exact hpp
              refine br_b (fun hm => skip (nxt_f hnb (by rw [hm, Bool.and_false]))) (fun hm => ?_)
              have hx := nxt_t (K := K) (B := bsN K T) (L := L) (t := tt) (b := b) hnb (by rw [hl, hm]; rfl)
              have cdx := del_cd hL hx16 hl
              have hn15 : n < 16 := by omega
              have vN : vp_in (nI n) 16 := vp_in_nI hn15 (by decide)
              obtain ⟨mk1, mk2⟩ := msk_c hE hL hU hx16 hl
              have bl := bN_le (turnN b (dirN i))
              rw [show gI (some x) = nI x from rfl, tn_nI (n := n) (by omega)]
              refine ⟨vN, ?_⟩
              rintro _ rfl
              refine ⟨vN, ?_⟩
              rintro _ rfl
              refine ⟨vN, ?_⟩
              rintro _ rfl
              refine ⟨vn, vn, ?_⟩
              have k7 : up (up (up S24 6 n (nI x)) 7 n (nI (dirN i))) 8 n 0 7 (n - 1) = gI b := by
                rw [up_k (by decide), up_ki (by omega), up_k (by decide), g7]; exact f7
              have k9 : up (up (up S24 6 n (nI x)) 7 n (nI (dirN i))) 8 n 0 9 (n - 1) = nI tu := by
                rw [up_k (by decide), up_k (by decide), up_k (by decide), g9]; exact f9
              rw [k7, k9]
              refine turnj2 vn hb (dir_lt i) ⟨vN, ?_⟩
              rw [bI_n, nI_add]
              rintro _ rfl _ rfl
              rw [show nI n + (1 : Int32) = nI (n + 1) from nI_1 n]
              rintro _ rfl
              have fr45 : Fr S0 (up (up (up (up S24 6 n (nI x)) 7 n (nI (dirN i))) 8 n 0) 9 n (nI (tu + bN (turnN b (dirN i))))) := (((g1.up (by decide)).up (by decide)).up (by decide)).up (by decide)
              have o6 : ∀ k, k ≠ n → up (up (up (up S24 6 n (nI x)) 7 n (nI (dirN i))) 8 n 0) 9 n (nI (tu + bN (turnN b (dirN i)))) 6 k = S24 6 k := fun k hk => by rw [up_k (by decide), up_k (by decide), up_k (by decide), up_ki hk]
              have o7 : ∀ k, k ≠ n → up (up (up (up S24 6 n (nI x)) 7 n (nI (dirN i))) 8 n 0) 9 n (nI (tu + bN (turnN b (dirN i)))) 7 k = S24 7 k := fun k hk => by rw [up_k (by decide), up_k (by decide), up_ki hk, up_k (by decide)]
              have o8 : ∀ k, k ≠ n → up (up (up (up S24 6 n (nI x)) 7 n (nI (dirN i))) 8 n 0) 9 n (nI (tu + bN (turnN b (dirN i)))) 8 k = S24 8 k := fun k hk => by rw [up_k (by decide), up_ki hk, up_k (by decide), up_k (by decide)]
              have o9 : ∀ k, k ≠ n → up (up (up (up S24 6 n (nI x)) 7 n (nI (dirN i))) 8 n 0) 9 n (nI (tu + bN (turnN b (dirN i)))) 9 k = S24 9 k := fun k hk => by rw [up_ki hk, up_k (by decide), up_k (by decide), up_k (by decide)]
              have n6 : up (up (up (up S24 6 n (nI x)) 7 n (nI (dirN i))) 8 n 0) 9 n (nI (tu + bN (turnN b (dirN i)))) 6 n = nI x := by rw [up_k (by decide), up_k (by decide), up_k (by decide), up_ss]
              have n7 : up (up (up (up S24 6 n (nI x)) 7 n (nI (dirN i))) 8 n 0) 9 n (nI (tu + bN (turnN b (dirN i)))) 7 n = nI (dirN i) := by rw [up_k (by decide), up_k (by decide), up_ss]
              have n8 : up (up (up (up S24 6 n (nI x)) 7 n (nI (dirN i))) 8 n 0) 9 n (nI (tu + bN (turnN b (dirN i)))) 8 n = 0 := by rw [up_k (by decide), up_ss]
              have n9 : up (up (up (up S24 6 n (nI x)) 7 n (nI (dirN i))) 8 n 0) 9 n (nI (tu + bN (turnN b (dirN i)))) 9 n = nI (tu + bN (turnN b (dirN i))) := up_ss
              have R45 : RM (cdN E) o (Ls ++ ((n, w, tu) :: catTo (kid K (bsN K T) d n w L c b tt tu) i)) (up (up (up (up S24 6 n (nI x)) 7 n (nI (dirN i))) 8 n 0) 9 n (nI (tu + bN (turnN b (dirN i))))) := gR.same (by rw [up_k (by decide), up_k (by decide), up_k (by decide), up_k (by decide)]) (by rw [up_k (by decide), up_k (by decide), up_k (by decide), up_k (by decide)])
              generalize up (up (up (up S24 6 n (nI x)) 7 n (nI (dirN i))) 8 n 0) 9 n (nI (tu + bN (turnN b (dirN i)))) = S45 at fr45 o6 o7 o8 o9 n6 n7 n8 n9 R45
              have w16' : ∀ k, k < n + 1 → ext w n x k < 16 := by
                intro k hk
                by_cases e : k = n
                · rw [e, ext_n]; exact hx16
                · rw [ext_o e]; exact hw16 k (by omega)
              have s6' : ∀ k, k < n + 1 → S45 6 k = nI (ext w n x k) := by
                intro k hk
                by_cases e : k = n
                · rw [e, ext_n]; exact n6
                · rw [ext_o e, o6 k e, g6]; exact f6 k (by omega)
              refine reaches6 (n := n + 1) (tu := tu + bN (turnN b (dirN i))) (w := ext w n x) (M := cdN E) hf hE ho (hQ.fr fr45) rfl R45 (by omega) (by omega) s6' w16' (by omega) n9 (fun S50 v1 v2 v3 => ?_)
              have f50 : Fr S0 S50 := ⟨fun r a b c d e f => by rw [v1 r a f]; exact fr45.1 r a b c d e f, fun k a b c d => by rw [v2 k a b c d]; exact fr45.2 k a b c d⟩
              refine ih (n + 1) (ext w n x) (delN L x) x (some (dirN i)) (turnN b (dirN i)) (tu + bN (turnN b (dirN i))) (U ||| bitI x) S50 (Ls ++ ((n, w, tu) :: catTo (kid K (bsN K T) d n w L c b tt tu) i)) (by omega) (by omega) (by omega) (del_lt hL) hx16 (fun y hy => by rw [← Option.some.inj hy]; exact dir_lt i) (by omega) (ext_n w n x) w16' (by omega) mk1 f50 (fun k hk => by rw [v1 6 (by decide) (by decide)]; exact s6' k hk) (by rw [v1 7 (by decide) (by decide)]; exact n7) (by rw [v1 8 (by decide) (by decide)]; exact n8) (by rw [v1 9 (by decide) (by decide)]; exact n9) (fun z => absurd z (by omega)) (fun _ => ⟨tu, ?_, rfl⟩) v3 (fun S2 y1 y2 y3 => ?_)
              · rw [v1 9 (by decide) (by decide), show n + 1 - 2 = n - 1 by omega, o9 (n - 1) (by omega), g9]; exact f9
              · rw [mk2, Nat.add_sub_cancel]
                have z6 : ∀ r, r = 6 ∨ r = 7 ∨ r = 8 ∨ r = 9 → ∀ k, k < n → S2 r k = S24 r k := by
                  intro r hr k hk
                  rw [y2 r hr k (by omega), v1 r (by omega) (by omega)]
                  rcases hr with rfl | rfl | rfl | rfl
                  · exact o6 k (by omega)
                  · exact o7 k (by omega)
                  · exact o8 k (by omega)
                  · exact o9 k (by omega)
                refine ihj (i + 1) S2 (by omega) y1 (fun k hk => ?_) ?_ ?_ ?_ (fun r hr k hk => ?_) ?_
                · rw [z6 6 (by decide) k hk, g6]; exact f6 k hk
                · rw [z6 7 (by decide) (n - 1) (by omega), g7]; exact f7
                · rw [z6 8 (by decide) (n - 1) (by omega)]; exact g8
                · rw [z6 9 (by decide) (n - 1) (by omega), g9]; exact f9
                · rw [z6 r hr k (by omega)]; exact gk r hr k hk
                · have e : Ls ++ ((n, w, tu) :: catTo (kid K (bsN K T) d n w L c b tt tu) (i + 1)) = (Ls ++ ((n, w, tu) :: catTo (kid K (bsN K T) d n w L c b tt tu) i)) ++ nds K (bsN K T) d (n + 1) (ext w n x) (delN L x) x (some (dirN i)) (turnN b (dirN i)) (tu + bN (turnN b (dirN i))) := by
                    rw [List.append_assoc, List.cons_append, ← kid_some (d := d) (n := n) (w := w) (tu := tu) hx]
                    rfl
                  rw [e]; exact y3
            · rw [bt_nI (by omega)] at hl
              exact skip (nxt_f hnb (by rw [hl, Bool.false_and]))
      exact inner 4 0 S (by decide) hFr s6 s7 s8 s9 (fun _ _ _ _ => rfl) hRM
  have f10 : Fr S0 S10 := ⟨fun r a b c d e f => by rw [u1 r a f]; exact fr0.1 r a b c d e f, fun k a b c d => by rw [u2 k a b c d]; exact fr0.2 k a b c d⟩
  refine core 17 1 (fun _ => s) (delN E s) s none false 0 (bitI s) S10 Ls rfl (Nat.le_refl 1) (by decide) (del_lt hE) hs16 (fun x hx => by cases hx) (by omega) rfl (fun _ _ => hs16) (by decide) (del_I hE hs16) f10 (fun k hk => ?_) ?_ ?_ ?_ (fun _ => rfl) (fun z => absurd z (by decide)) u3 (fun S' y1 y2 y3 => ?_)
  · obtain rfl : k = 0 := by omega
    rw [u1 6 (by decide) (by decide), up_k (by decide), up_k (by decide), up_k (by decide)]; exact up_ss
  · rw [u1 7 (by decide) (by decide), up_k (by decide), up_k (by decide)]; exact up_ss
  · rw [u1 8 (by decide) (by decide), up_k (by decide)]; exact up_ss
  · rw [u1 9 (by decide) (by decide)]; exact up_ss
  · refine hP _ ⟨fun _ => h S' y1 y3, fun z => absurd (by decide) z⟩
end
