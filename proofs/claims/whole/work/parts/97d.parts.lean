/-! THE TEXT: cells, marks -/
section
variable {b : Nat → Nat} {L : Nat}
def clN (b : Nat → Nat) (L : Nat) : Nat → Nat → Nat → Nat → Bool × Nat × Nat
  | 0 => fun s _ set => (false, s, set)
  | f + 1 => fun s least set => if nmB b L s least 15 then (if kdN b L (nxS b L s) = 2 then clN b L f (nxS b L s) (vC b L s + 1) (set ||| 2 ^ vC b L s) else (true, nxS b L s, set ||| 2 ^ vC b L s)) else (false, s, set)
theorem cl_f {f s least set : Nat} (h : nmB b L s least 15 = false) : clN b L (f + 1) s least set = (false, s, set) := by
  show (if nmB b L s least 15 then _ else _) = _
  rw [h]; rfl
theorem cl_e {f s least set : Nat} (h : nmB b L s least 15 = true) (h2 : kdN b L (nxS b L s) ≠ 2) : clN b L (f + 1) s least set = (true, nxS b L s, set ||| 2 ^ vC b L s) := by
  show (if nmB b L s least 15 then _ else _) = _
  rw [h]
  exact if_neg h2
theorem cl_m {f s least set : Nat} (h : nmB b L s least 15 = true) (h2 : kdN b L (nxS b L s) = 2) : clN b L (f + 1) s least set = clN b L f (nxS b L s) (vC b L s + 1) (set ||| 2 ^ vC b L s) := by
  show (if nmB b L s least 15 then _ else _) = _
  rw [h]
  exact if_pos h2
theorem t15 : (15 : Int32).toInt = 15 := rfl
theorem or16 : ∀ v, v < 16 → (1 : Int32) <<< (nI v &&& 31) = nI (2 ^ v) := by decide +kernel
theorem Tk.to {s : Nat} {T : Bun} (h : Tk b L s T) {post : Bun → Prop} (k : ∀ T', Tk b L (nxS b L s) T' → post T') : wX4_takeToken T post := takeToken5 h.1 (tE_le h.2.1).2 h.2.2.2.1 k
/-- a word and its cells, or nothing -/
def clR (b : Nat → Nat) (L s i : Nat) : Bool × Nat × Nat := if wdB b L s i then clN b L 17 (nxS b L s) 0 0 else (true, s, 0)
theorem takeCells5 {T P : Bun} {s i f w : Nat} (hi : i < 14) (hf : f < 6) (hw : w < 6) (hT : Tk b L s T) (hd : P 3 (6 * f + w) = 0) {post : Int32 → Bun → Bun → Prop} (h1 : (clR b L s i).1 = true → ∀ T', Tk b L (clR b L s i).2.1 T' → post 1 T' (up P 3 (6 * f + w) (nI (clR b L s i).2.2))) (h0 : (clR b L s i).1 = false → ∀ T', Tk b L (clR b L s i).2.1 T' → post 0 T' P) : wX4_takeCells T P (nI f) i (nI w) post := by
  unfold wX4_takeCells
  unfold clR at h1 h0
  refine ⟨hi, isWord5 hi hT (br_b (fun z => ?_) (fun z => ?_))⟩
  · rw [z] at h1
    have := h1 rfl T hT
    rw [show up P 3 (6 * f + w) (nI ((if false = true then clN b L 17 (nxS b L s) 0 0 else (true, s, 0) : Bool × Nat × Nat).2.2)) = P from up_same hd] at this
    exact this
  · rw [z] at h1 h0
    refine hT.to (fun T5 hT5 => ?_)
    intro Q hQ
    have core : ∀ (f2 i2 s2 least set : Nat) (T9 : Bun), i2 + f2 = 17 → i2 ≤ least → least ≤ 16 → (i2 = 0 ∨ kdN b L s2 = 2) → Tk b L s2 T9 → ((clN b L f2 s2 least set).1 = true → ∀ T', Tk b L (clN b L f2 s2 least set).2.1 T' → post 1 T' (up P 3 (6 * f + w) (nI (clN b L f2 s2 least set).2.2))) → ((clN b L f2 s2 least set).1 = false → ∀ T', Tk b L (clN b L f2 s2 least set).2.1 T' → post 0 T' P) → Q (nI set, nI least, nI i2, T9) := by
      intro f2
      induction f2 with
      | zero => intro i2 s2 least set T9 e1 e2 e3; omega
      | succ f2 ih =>
        intro i2 s2 least set T9 e1 e2 e3 hk hT9 g1 g0
        have num : wX4_isNumber T9 (nI least) (15 : Int32) (fun r25 => ((r25 = 0 → post (0 : Int32) T9 P) ∧ (¬ (r25 = 0) → ∀ x27 : Int32, x27 = nI set ||| ((1 : Int32) <<< ((T9 0 5) &&& 31)) → ∀ x28 : Int32, x28 = (T9 0 5) + (1 : Int32) → wX4_takeToken T9 (fun T31 => ∀ x32 : Int32, x32 = nI i2 + (1 : Int32) → Q (x27, x28, x32, T31))))) := by
          refine isNumber5 hT9 (by omega) (br_b (fun y => ?_) (fun y => ?_))
          · rw [cl_f y] at g0
            exact g0 rfl T9 hT9
          · obtain ⟨v1, v2, v3, v4⟩ := vC_M (by rw [t15]; decide) y
            rw [t15] at v4
            have e5 : T9 0 5 = nI (vC b L s2) := hT9.2.2.2.2.2 v2
            rw [e5, or16 _ (by omega), fa_or, show nI (vC b L s2) + (1 : Int32) = nI (vC b L s2 + 1) from nI_1 _]
            rintro _ rfl _ rfl
            refine hT9.to (fun T31 hT31 => ?_)
            rintro _ rfl
            rw [show nI i2 + (1 : Int32) = nI (i2 + 1) from nI_1 _]
            by_cases k2 : kdN b L (nxS b L s2) = 2
            · rw [cl_m y k2] at g1 g0
              exact ih (i2 + 1) (nxS b L s2) (vC b L s2 + 1) (set ||| 2 ^ vC b L s2) T31 (by omega) (by omega) (by omega) (Or.inr k2) hT31 g1 g0
            · rw [cl_e y k2] at g1
              have kl := kd_le b L (nxS b L s2)
              refine hQ _ (wj ?_)
              have put : wX1_putMark P (nI f) (nI w) (nI (set ||| 2 ^ vC b L s2)) (fun S21 => post (1 : Int32) T31 S21) := put5 hf hw (g1 rfl T31 hT31)
              refine ⟨fun _ => put, fun _ => wj (br_f (nI_nle (by omega) (by omega)) (br_f ?_ put))⟩
              rw [hT31.2.2.2.2.1]
              exact fun q => k2 ((nI_eq (b := 2) (by omega) (by decide)).mp q)
        refine hQ _ (wj (br_f (nI_nlt (a := 16) (by omega) (by decide)) (wj ?_)))
        refine ⟨fun _ => num, fun q => br_t ?_ num⟩
        rcases hk with hk | hk
        · exact absurd (by rw [hk]; decide) q
        · rw [hT9.2.2.2.2.1, hk]; rfl
    exact core 17 0 (nxS b L s) 0 0 T5 rfl (Nat.le_refl 0) (by decide) (Or.inl rfl) hT5 h1 h0
theorem clO {S : Bun} {J : Lon} {s i : Nat} (hi : i < 14) (hS : Sy b L s S) {REST : Int32 × Bun → Prop} (h1 : (clR b L s i).1 = true → ∀ S' : Bun, FrP S S' → Sy b L (clR b L s i).2.1 S' → REST (nI (clR b L s i).2.2, S')) (h0 : (clR b L s i).1 = false → ∀ (x : Int32) (S' : Bun), FrP S S' → Wg (clR b L s i).2.1 S' → REST (x, S')) : wX6_isWord S J (nI (wI i 0)) (nI (wI i 1)) (nI (wI i 2)) (nI (wI i 3)) (nI (wI i 4)) (nI (wI i 5)) (nI (wI i 6)) (fun r9 => wjoin (σ := Int32 × Bun) REST (fun J13 => ((r9 = 0 → J13 ((0 : Int32), S)) ∧ (¬ (r9 = 0) → wX6_cells S J (fun r57 S59 => J13 (r57, S59)))))) := by
  unfold clR at h1 h0
  refine isWord6 hi hS (wj (br_b (fun z => ?_) (fun z => ?_)))
  · rw [z] at h1
    exact h1 rfl S (FrP.rfl' S) hS
  · rw [z] at h1 h0
    unfold wX6_cells
    refine needs_t hS (fun S3 f3 _ hS3 => ?_)
    intro Q hQ
    have core : ∀ (f2 s2 least set : Nat) (S8 : Bun), least ≤ 16 → FrP S S8 → Sy b L s2 S8 → ((clN b L f2 s2 least set).1 = true → ∀ S' : Bun, FrP S S' → Sy b L (clN b L f2 s2 least set).2.1 S' → REST (nI (clN b L f2 s2 least set).2.2, S')) → ((clN b L f2 s2 least set).1 = false → ∀ (x : Int32) (S' : Bun), FrP S S' → Wg (clN b L f2 s2 least set).2.1 S' → REST (x, S')) → 1 ≤ f2 → 17 ≤ f2 + least → Q (nI set, nI least, (1 : Int32), S8) := by
      intro f2
      induction f2 with
      | zero => intro s2 least set S8 _ _ _ _ _ h; omega
      | succ f2 ih =>
        intro s2 least set S8 e3 f8 hS8 g1 g0 _ e17
        refine hQ _ (br_f (by decide) (br_t hS8.2.2.2.2 (number6 hS8 (by omega) (by rw [t15]; decide) (fun y S17 v1 v2 v3 => ?_) (fun y S17 v1 v2 => ?_))))
        · obtain ⟨w1, w2, w3, w4⟩ := vC_M (by rw [t15]; decide) y
          rw [t15] at w4
          rw [v2, or16 _ (by omega), fa_or, show nI (vC b L s2) + (1 : Int32) = nI (vC b L s2 + 1) from nI_1 _]
          rintro _ rfl _ rfl
          refine br_t v3.2.2.2.2 ?_
          rw [v3.2.2.1]
          have L120 := v3.1.2.2.1
          have nl := v3.2.1
          refine dg6 v3.1 (by omega) (br_b (fun q => ?_) (fun q => ?_))
          · have k2 : kdN b L (nxS b L s2) ≠ 2 := fun k => by
              obtain ⟨a1, a2, _⟩ := kd_2 k
              rw [decide_eq_true a1, a2] at q
              exact absurd q (by decide)
            rw [cl_e y k2] at g1
            exact hQ _ (br_t rfl (g1 rfl S17 (f8.tr v1) v3))
          · rw [Bool.and_eq_true] at q
            have k2 : kdN b L (nxS b L s2) = 2 := kd_2' (of_decide_eq_true q.1) q.2
            rw [cl_m y k2] at g1 g0
            exact ih (nxS b L s2) (vC b L s2 + 1) (set ||| 2 ^ vC b L s2) S17 (by omega) (f8.tr v1) v3 g1 g0 (by omega) (by omega)
        · rw [cl_f y] at g0
          rintro _ rfl _ rfl
          refine br_f (by rw [v2.2.1]; decide) (hQ _ (br_t rfl (g0 rfl _ S17 (f8.tr v1) v2)))
    exact core 17 (nxS b L s) 0 0 S3 (by decide) f3 hS3 h1 h0 (by decide) (by decide)
theorem clOw {S : Bun} {J : Lon} {s i : Nat} (hi : i < 14) (hS : Wg s S) {REST : Int32 × Bun → Prop} (h : REST (0, S)) : wX6_isWord S J (nI (wI i 0)) (nI (wI i 1)) (nI (wI i 2)) (nI (wI i 3)) (nI (wI i 4)) (nI (wI i 5)) (nI (wI i 6)) (fun r9 => wjoin (σ := Int32 × Bun) REST (fun J13 => ((r9 = 0 → J13 ((0 : Int32), S)) ∧ (¬ (r9 = 0) → wX6_cells S J (fun r57 S59 => J13 (r57, S59)))))) := isWord6w hi hS (wj (br_t rfl h))
/-- a word and its number, or nothing -/
def mkR (b : Nat → Nat) (L s i : Nat) (most dflt : Int32) : Bool × Nat × Int32 := if wdB b L s i then (if nmB b L (nxS b L s) 0 most then (true, nxS b L (nxS b L s), nI (vC b L (nxS b L s))) else (false, nxS b L s, dflt)) else (true, s, dflt)
theorem mk_n {s i : Nat} {most dflt : Int32} (h : wdB b L s i = false) : mkR b L s i most dflt = (true, s, dflt) := by unfold mkR; rw [h]; rfl
theorem mk_t {s i : Nat} {most dflt : Int32} (h : wdB b L s i = true) (h2 : nmB b L (nxS b L s) 0 most = true) : mkR b L s i most dflt = (true, nxS b L (nxS b L s), nI (vC b L (nxS b L s))) := by unfold mkR; rw [h, h2]; rfl
theorem mk_f {s i : Nat} {most dflt : Int32} (h : wdB b L s i = true) (h2 : nmB b L (nxS b L s) 0 most = false) : mkR b L s i most dflt = (false, nxS b L s, dflt) := by unfold mkR; rw [h, h2]; rfl
theorem takeMark5 {T P : Bun} {s i f w : Nat} {dflt : Int32} (hi : i < 14) (hf : f < 6) (hw : w < 6) (hm : (tbMost w).toInt ≤ 999) (hT : Tk b L s T) (hd : P 3 (6 * f + w) = dflt) {post : Int32 → Bun → Bun → Prop} (h1 : (mkR b L s i (tbMost w) dflt).1 = true → ∀ T', Tk b L (mkR b L s i (tbMost w) dflt).2.1 T' → post 1 T' (up P 3 (6 * f + w) (mkR b L s i (tbMost w) dflt).2.2)) (h0 : (mkR b L s i (tbMost w) dflt).1 = false → ∀ T', Tk b L (mkR b L s i (tbMost w) dflt).2.1 T' → post 0 T' P) : wX4_takeMark T P (nI f) i (nI w) post := by
  unfold wX4_takeMark
  refine ⟨hi, isWord5 hi hT (br_b (fun z => ?_) (fun z => ?_))⟩
  · rw [mk_n z] at h1
    have := h1 rfl T hT
    rw [up_same (show P 3 (6 * f + w) = ((true, s, dflt) : Bool × Nat × Int32).2.2 from hd)] at this
    exact this
  · refine hT.to (fun T5 hT5 => ⟨vp_in_nI hw (by decide), ?_⟩)
    rw [tn_nI (n := w) (by omega)]
    refine isNumber5 (lo := 0) hT5 (by omega) (br_b (fun y => ?_) (fun y => ?_))
    · rw [mk_f z y] at h0
      exact h0 rfl T5 hT5
    · rw [mk_t z y] at h1
      obtain ⟨v1, v2, v3, v4⟩ := vC_M hm y
      rw [hT5.2.2.2.2.2 v2]
      exact put5 hf hw (hT5.to (fun T14 hT14 => h1 rfl T14 hT14))
theorem pmO {S : Bun} {J : Lon} {s i : Nat} {most dflt : Int32} (hi : i < 14) (hm : most.toInt ≤ 999) (hS : Sy b L s S) {REST : Int32 → Bun → Prop} (h1 : (mkR b L s i most dflt).1 = true → ∀ S' : Bun, FrP S S' → Sy b L (mkR b L s i most dflt).2.1 S' → REST (mkR b L s i most dflt).2.2 S') (h0 : (mkR b L s i most dflt).1 = false → ∀ (x : Int32) (S' : Bun), FrP S S' → Wg (mkR b L s i most dflt).2.1 S' → REST x S') : wX6_isWord S J (nI (wI i 0)) (nI (wI i 1)) (nI (wI i 2)) (nI (wI i 3)) (nI (wI i 4)) (nI (wI i 5)) (nI (wI i 6)) (fun r23 => wX6_perhaps S J r23 most dflt (fun r25 S27 => REST r25 S27)) := by
  refine isWord6 hi hS ?_
  unfold wX6_perhaps
  refine br_t hS.2.2.2.2 (br_b (fun z => ?_) (fun z => ?_))
  · rw [mk_n z] at h1
    exact h1 rfl S (FrP.rfl' S) hS
  · refine needs_t hS (fun S3 f3 _ hS3 => number6 (lo := 0) hS3 (by omega) hm (fun y S7 v1 v2 v3 => ?_) (fun y S7 v1 v2 => ?_))
    · rw [mk_t z y] at h1
      rw [v2]
      exact h1 rfl S7 (f3.tr v1) v3
    · rw [mk_f z y] at h0
      exact h0 rfl _ S7 (f3.tr v1) v2
theorem pmOw {S : Bun} {J : Lon} {s i : Nat} {most dflt : Int32} (hi : i < 14) (hS : Wg s S) {REST : Int32 → Bun → Prop} (h : REST dflt S) : wX6_isWord S J (nI (wI i 0)) (nI (wI i 1)) (nI (wI i 2)) (nI (wI i 3)) (nI (wI i 4)) (nI (wI i 5)) (nI (wI i 6)) (fun r23 => wX6_perhaps S J r23 most dflt (fun r25 S27 => REST r25 S27)) := by
  refine isWord6w hi hS ?_
  unfold wX6_perhaps
  exact br_f (by rw [hS.2.1]; decide) h
end
