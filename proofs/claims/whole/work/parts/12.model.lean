def wX6_in  (a1 : Int64) (a2 : Int64) (a3 : Int64) (post : Int32 → Prop) : Prop :=
  (((lg_cmp a1 a2) < 0 → post (0 : Int32)) ∧ (¬ ((lg_cmp a1 a2) < 0) → ((0 < (lg_cmp a1 a3) → post (0 : Int32)) ∧ (¬ (0 < (lg_cmp a1 a3)) → post (1 : Int32)))))
set_option maxRecDepth 100000 in
set_option maxHeartbeats 4000000 in
theorem kX6_in (l : Launch) (g : Gl)   (sz : Nat)  (a1 : Int64) (a2 : Int64) (a3 : Int64) (post : Int32 → Prop) (h : wX6_in  a1 a2 a3 post) : Met l yX6_in wsX6_in (rmm 0 0) (wPc g E0 (([] : va_W)) sz [.long a1, .long a2, .long a3]) (va_Qi (fun (r : Int32) (u : Unit) => u = () ∧ post r) (wB g (fun _ : Unit => ([] : va_W)) (va_A (([] : va_W)) sz)) (va_A (([] : va_W)) sz)) 0 0 (va_A (([] : va_W)) sz) := by
  refine mstart (Qf := fun A => va_Qi (fun (r : Int32) (u : Unit) => u = () ∧ post r) (wB g (fun _ : Unit => ([] : va_W)) A) A) (by decide) rfl (Nat.le_of_ble_eq_true rfl) ?_
  intro p e s m args below meth c A Q H locs ls hC hr hlocks hname hQ hA hK hE hw hl
  have hC : CallFix p m c cX6_in 6 s args wsX6_in RX6 := hC
  obtain ⟨hx, hb, -, hown, hts⟩ := id hC
  have hl : lv_has ls 6 [(0, .long a1), (2, .long a2), (4, .long a3)] := hl
  rw [wX6_in] at h
  refine lv_lload_n hx hb dX6_in_0 rfl (lv_at hl 0 rfl) ?_
  refine lv_lload_n hx hb dX6_in_1 rfl (lv_at hl 1 rfl) ?_
  refine W.lcmp hx hb dX6_in_2 ?_
  refine lv_if_lt (tgt := 17) hx hb dX6_in_3 (by decide) (fun c2 => ?_) (fun c2 => ?_)
  · replace h := h.1 c2
    refine lv_iconst (v := (0 : Int32)) hx hb dX6_in_17 (by decide) ?_
    rw [hQ]
    exact mretz (w := (fun _ : Unit => ([] : va_W))) (u := ()) hC hr hlocks hK hw (Or.inl rfl) ⟨rfl, h⟩ dX6_in_18
  · replace h := h.2 c2
    refine lv_lload_n hx hb dX6_in_6 rfl (lv_at hl 0 rfl) ?_
    refine lv_lload hx hb dX6_in_7 (lv_at hl 2 rfl) ?_
    refine W.lcmp hx hb dX6_in_9 ?_
    refine lv_if_gt (tgt := 17) hx hb dX6_in_10 (by decide) (fun c1 => ?_) (fun c1 => ?_)
    · replace h := h.1 c1
      refine lv_iconst (v := (0 : Int32)) hx hb dX6_in_17 (by decide) ?_
      rw [hQ]
      exact mretz (w := (fun _ : Unit => ([] : va_W))) (u := ()) hC hr hlocks hK hw (Or.inl rfl) ⟨rfl, h⟩ dX6_in_18
    · replace h := h.2 c1
      refine lv_iconst (v := (1 : Int32)) hx hb dX6_in_13 (by decide) ?_
      refine lv_goto (tgt := 18) hx hb dX6_in_14 (by decide) ?_
      rw [hQ]
      exact mretz (w := (fun _ : Unit => ([] : va_W))) (u := ()) hC hr hlocks hK hw (Or.inr rfl) ⟨rfl, h⟩ dX6_in_18
def wX6_finds (S : Bun) (J : Lon) (a1 : Int32) (post : Int32 → Bun → Lon → Prop) : Prop :=
  vp_in ((-1000000001 : Int32) - a1) 7 ∧ vp_in ((-1000000001 : Int32) - a1) 7 ∧ ∀ S1 : Bun, S1 = up S 4 ((-1000000001 : Int32) - a1).toNatClampNeg ((S 4 ((-1000000001 : Int32) - a1).toNatClampNeg) + (1 : Int32)) → post a1 S1 J
set_option maxRecDepth 100000 in
set_option maxHeartbeats 4000000 in
theorem kX6_finds (l : Launch) (g : Gl)  (q : Nat → Nat) (sz : Nat) (S : Bun) (J : Lon) (a1 : Int32) (post : Int32 → Bun → Lon → Prop) (h : wX6_finds S J a1 post) : Met l yX6_finds wsX6_finds (rmm 0 0) (wPc g E0 ((wM g q) (S, J)) sz [.ref (q 0), .int a1]) (va_Qi (fun (r : Int32) (u : Bun × Lon) => post r u.1 u.2) (wB g (wM g q) (va_A ((wM g q) (S, J)) sz)) (va_A ((wM g q) (S, J)) sz)) 0 0 (va_A ((wM g q) (S, J)) sz) := by
  refine mstart (Qf := fun A => va_Qi (fun (r : Int32) (u : Bun × Lon) => post r u.1 u.2) (wB g (wM g q) A) A) (by decide) rfl (Nat.le_of_ble_eq_true rfl) ?_
  intro p e s m args below meth c A Q H locs ls hC hr hlocks hname hQ hA hK hE hw hl
  have hC : CallFix p m c cX6_finds 2 s args wsX6_finds RX6 := hC
  obtain ⟨hx, hb, -, hown, hts⟩ := id hC
  have hl : lv_has ls 2 [(0, .ref (q 0)), (1, .int a1)] := hl
  rw [wX6_finds] at h
  have hinX6 : ∀ w ∈ wsX60, w ∈ wsX6_finds := fun w hw9 => List.mem_cons_of_mem _ (List.mem_append_right _ hw9)
  refine lv_aload_n hx hb dX6_finds_0 rfl (lv_at hl 0 rfl) ?_
  refine M_mg3 hC hinX6 hK hw (List.mem_of_getElem? (i := 1) rfl) dX6_finds_1 ?_
  refine lv_ldc (v := (-1000000001 : Int32)) hx hb hown (hts (.constant RX6 68 (-1000000001)) (List.mem_of_getElem? (i := 2) rfl)) dX6_finds_4 ?_
  refine lv_iload_n hx hb dX6_finds_6 rfl (lv_at hl 1 rfl) ?_
  refine lv_isub hx hb dX6_finds_7 ?_
  refine lv_dup2_11 hx hb dX6_finds_8 rfl rfl ?_
  obtain ⟨hi, h⟩ := h
  refine M_ml3 hC hK hw hi dX6_finds_9 ?_
  refine lv_iconst (v := (1 : Int32)) hx hb dX6_finds_10 (by decide) ?_
  refine lv_iadd hx hb dX6_finds_11 ?_
  obtain ⟨hi, h⟩ := h
  refine M_ms3 hC hK hw hi dX6_finds_12 (fun S1 H locs eS1 hw => ?_)
  replace h := h S1 eS1
  refine lv_iload_n hx hb dX6_finds_13 rfl (lv_at hl 1 rfl) ?_
  rw [hQ]
  exact mreti (w := (wM g q)) (u := (S1, J)) hC hr hlocks hK hw h dX6_finds_14
def wX6_ones  (a1 : Int32) (post : Int32 → Prop) : Prop :=
  wloop (σ := Int32 × Int32) (fun K3 z => match z with | (x1, x2) => ((x2 = 0 → post x1) ∧ (¬ (x2 = 0) → ∀ x9 : Int32, x9 = x1 + (1 : Int32) → ∀ x10 : Int32, x10 = x2 &&& (x2 - (1 : Int32)) → K3 (x9, x10)))) ((0 : Int32), a1)
set_option maxRecDepth 100000 in
set_option maxHeartbeats 4000000 in
theorem kX6_ones (l : Launch) (g : Gl)   (sz : Nat)  (a1 : Int32) (post : Int32 → Prop) (h : wX6_ones  a1 post) : Met l yX6_ones wsX6_ones (rmm 0 0) (wPc g E0 (([] : va_W)) sz [.int a1]) (va_Qi (fun (r : Int32) (u : Unit) => u = () ∧ post r) (wB g (fun _ : Unit => ([] : va_W)) (va_A (([] : va_W)) sz)) (va_A (([] : va_W)) sz)) 0 0 (va_A (([] : va_W)) sz) := by
  refine mstart (Qf := fun A => va_Qi (fun (r : Int32) (u : Unit) => u = () ∧ post r) (wB g (fun _ : Unit => ([] : va_W)) A) A) (by decide) rfl (Nat.le_of_ble_eq_true rfl) ?_
  intro p e s m args below meth c A Q H locs ls hC hr hlocks hname hQ hA hK hE hw hl
  have hC : CallFix p m c cX6_ones 3 s args wsX6_ones RX6 := hC
  obtain ⟨hx, hb, -, hown, hts⟩ := id hC
  have hl : lv_has ls 3 [(0, .int a1)] := hl
  rw [wX6_ones] at h
  refine lv_iconst (v := (0 : Int32)) hx hb dX6_ones_0 (by decide) ?_
  refine lv_istore_n (lv' := [(1, .int (0 : Int32)), (0, .int a1)]) hx hb dX6_ones_1 rfl hl (by decide) rfl (fun ls hl => ?_)
  refine lv_iload_n hx hb dX6_ones_2 rfl (lv_at hl 1 rfl) ?_
  refine lv_istore_n (lv' := [(2, .int a1), (1, .int (0 : Int32)), (0, .int a1)]) hx hb dX6_ones_3 rfl hl (by decide) rfl (fun ls hl => ?_)
  obtain ⟨n8, I4, hI, hstep5⟩ := h
  have loop7 : ∀ (n8 : Nat) (x1 : Int32) (x2 : Int32) (H : Heap) (locs : List Loc) (ls : Array Slot), I4 n8 (x1, x2) → Wd g.1 A s.heap (([] : va_W)) H locs → lv_has ls 3 [(1, .int x1), (2, .int x2)] → W p l e (rmm 0 0) s m args below meth c H locs 0 0 Q (F0 m 4 ls []) := by
    intro n8
    induction n8 using Nat.strongRecOn with
    | ind n8 ih6 =>
    intro x1 x2 H locs ls hI hw hl
    have h := hstep5 n8 (x1, x2) hI
    refine lv_iload_n hx hb dX6_ones_4 rfl (lv_at hl 1 rfl) ?_
    refine lv_if_eq (tgt := 20) hx hb dX6_ones_5 (by decide) (fun c12 => ?_) (fun c12 => ?_)
    · replace h := h.1 c12
      refine lv_iload_n hx hb dX6_ones_20 rfl (lv_at hl 0 rfl) ?_
      rw [hQ]
      exact mreti (w := (fun _ : Unit => ([] : va_W))) (u := ()) hC hr hlocks hK hw ⟨rfl, h⟩ dX6_ones_21
    · replace h := h.2 c12
      obtain ⟨x9, ex9⟩ : ∃ y : Int32, y = x1 + (1 : Int32) := ⟨_, rfl⟩
      refine lv_iinc (v := x9) (lv' := [(1, .int x9), (2, .int x2)]) hx hb dX6_ones_8 hl (k := 0) rfl (by rw [ex9]; rfl) (by decide) rfl (fun ls hl => ?_)
      replace h := h x9 ex9
      refine lv_iload_n hx hb dX6_ones_11 rfl (lv_at hl 1 rfl) ?_
      refine lv_iload_n hx hb dX6_ones_12 rfl (lv_at hl 1 rfl) ?_
      refine lv_iconst (v := (1 : Int32)) hx hb dX6_ones_13 (by decide) ?_
      refine lv_isub hx hb dX6_ones_14 ?_
      refine lv_iand hx hb dX6_ones_15 ?_
      refine lv_topi (fun x10 ex10 => ?_)
      replace h := h x10 ex10
      refine lv_istore_n (lv' := [(2, .int x10), (1, .int x9)]) hx hb dX6_ones_16 rfl hl (by decide) rfl (fun ls hl => ?_)
      refine lv_goto (tgt := 4) hx hb dX6_ones_17 (by decide) ?_
      obtain ⟨m11, hm11, hI⟩ := h
      exact ih6 m11 hm11 x9 x10 _ _ _ hI hw (lv_sub hl [1, 0] rfl)
  exact loop7 n8 (0 : Int32) a1 _ _ _ hI hw (lv_sub hl [1, 0] rfl)
def wX6_its (S : Bun) (J : Lon) (a1 : Int32) (a2 : Int32) (post : Int32 → Prop) : Prop :=
  vp_in (((2 : Int32) + ((6 : Int32) * a1)) + a2) 56 ∧ post (S 1 (((2 : Int32) + ((6 : Int32) * a1)) + a2).toNatClampNeg)
set_option maxRecDepth 100000 in
set_option maxHeartbeats 4000000 in
theorem kX6_its (l : Launch) (g : Gl)  (q : Nat → Nat) (sz : Nat) (S : Bun) (J : Lon) (a1 : Int32) (a2 : Int32) (post : Int32 → Prop) (h : wX6_its S J a1 a2 post) : Met l yX6_its wsX6_its (rmm 0 0) (wPc g E0 ((wM g q) (S, J)) sz [.ref (q 0), .int a1, .int a2]) (va_Qi (fun (r : Int32) (u : Bun × Lon) => u = (S, J) ∧ post r) (wB g (wM g q) (va_A ((wM g q) (S, J)) sz)) (va_A ((wM g q) (S, J)) sz)) 0 0 (va_A ((wM g q) (S, J)) sz) := by
  refine mstart (Qf := fun A => va_Qi (fun (r : Int32) (u : Bun × Lon) => u = (S, J) ∧ post r) (wB g (wM g q) A) A) (by decide) rfl (Nat.le_of_ble_eq_true rfl) ?_
  intro p e s m args below meth c A Q H locs ls hC hr hlocks hname hQ hA hK hE hw hl
  have hC : CallFix p m c cX6_its 3 s args wsX6_its RX6 := hC
  obtain ⟨hx, hb, -, hown, hts⟩ := id hC
  have hl : lv_has ls 3 [(0, .ref (q 0)), (1, .int a1), (2, .int a2)] := hl
  rw [wX6_its] at h
  have hinX6 : ∀ w ∈ wsX60, w ∈ wsX6_its := fun w hw9 => List.mem_cons_of_mem _ (List.mem_append_right _ hw9)
  refine lv_aload_n hx hb dX6_its_0 rfl (lv_at hl 0 rfl) ?_
  refine M_mg0 hC hinX6 hK hw (List.mem_of_getElem? (i := 1) rfl) dX6_its_1 ?_
  refine lv_iconst (v := (2 : Int32)) hx hb dX6_its_4 (by decide) ?_
  refine lv_bipush (v := (6 : Int32)) hx hb dX6_its_5 (by decide) ?_
  refine lv_iload_n hx hb dX6_its_7 rfl (lv_at hl 1 rfl) ?_
  refine lv_imul hx hb dX6_its_8 ?_
  refine lv_iadd hx hb dX6_its_9 ?_
  refine lv_iload_n hx hb dX6_its_10 rfl (lv_at hl 2 rfl) ?_
  refine lv_iadd hx hb dX6_its_11 ?_
  obtain ⟨hi, h⟩ := h
  refine M_ml0 hC hK hw hi dX6_its_12 ?_
  rw [hQ]
  exact mreti (w := (wM g q)) (u := (S, J)) hC hr hlocks hK hw ⟨rfl, h⟩ dX6_its_13
def wX6_earth (S : Bun) (J : Lon) (a1 : Int32) (post : Int32 → Prop) : Prop :=
  wX6_its S J a1 (0 : Int32) (fun r1 => wX6_its S J a1 (1 : Int32) (fun r3 => post ((65535 : Int32) &&& ((r1 ||| r3) ^^^ (-1 : Int32)))))
set_option maxRecDepth 100000 in
set_option maxHeartbeats 4000000 in
theorem kX6_earth (l : Launch) (g : Gl)  (q : Nat → Nat) (sz : Nat) (S : Bun) (J : Lon) (a1 : Int32) (post : Int32 → Prop) (h : wX6_earth S J a1 post) : Met l yX6_earth wsX6_earth (rmm 1 22) (wPc g E0 ((wM g q) (S, J)) sz [.ref (q 0), .int a1]) (va_Qi (fun (r : Int32) (u : Bun × Lon) => u = (S, J) ∧ post r) (wB g (wM g q) (va_A ((wM g q) (S, J)) sz)) (va_A ((wM g q) (S, J)) sz)) 0 0 (va_A ((wM g q) (S, J)) sz) := by
  refine mstart (Qf := fun A => va_Qi (fun (r : Int32) (u : Bun × Lon) => u = (S, J) ∧ post r) (wB g (wM g q) A) A) (by decide) rfl (Nat.le_of_ble_eq_true rfl) ?_
  intro p e s m args below meth c A Q H locs ls hC hr hlocks hname hQ hA hK hE hw hl
  have hC : CallFix p m c cX6_earth 2 s args wsX6_earth RX6 := hC
  obtain ⟨hx, hb, -, hown, hts⟩ := id hC
  have hl : lv_has ls 2 [(0, .ref (q 0)), (1, .int a1)] := hl
  rw [wX6_earth] at h
  refine lv_ldc (v := (65535 : Int32)) hx hb hown (hts (.constant RX6 73 (65535)) (List.mem_of_getElem? (i := 1) rfl)) dX6_earth_0 ?_
  refine lv_aload_n hx hb dX6_earth_2 rfl (lv_at hl 0 rfl) ?_
  refine lv_iload_n hx hb dX6_earth_3 rfl (lv_at hl 1 rfl) ?_
  refine lv_iconst (v := (0 : Int32)) hx hb dX6_earth_4 (by decide) ?_
  refine mcalli (w1 := (wM g q)) (va_runV (As := [.int a1, .int (0 : Int32)]) (rest := [.int (65535 : Int32)]) hC (kX6_its l g  q H.size S J a1 (0 : Int32) _ h) (cwV 2 hts gX6_earth_X6_its rfl rfl rfl (by decide +kernel) ⟨Nat.le_of_ble_eq_true rfl, Nat.le_of_ble_eq_true rfl⟩) (mpreV E0_ok hK hE hA hw (Sub1.refl _) 0 rfl rfl) rfl rfl hl.1 rfl (lv_room (Nat.le_of_ble_eq_true rfl)) dX6_earth_5 ⟨Nat.zero_le _, Nat.zero_le _⟩) hA hw (Sub1.refl _) (fun _ => Sub.whole rfl) (fun r1 u2 H locs h hw => ?_)
  obtain ⟨rfl, h⟩ := h
  refine lv_aload_n hx hb dX6_earth_8 rfl (lv_at hl 0 rfl) ?_
  refine lv_iload_n hx hb dX6_earth_9 rfl (lv_at hl 1 rfl) ?_
  refine lv_iconst (v := (1 : Int32)) hx hb dX6_earth_10 (by decide) ?_
  refine mcalli (w1 := (wM g q)) (va_runV (As := [.int a1, .int (1 : Int32)]) (rest := [.int r1, .int (65535 : Int32)]) hC (kX6_its l g  q H.size S J a1 (1 : Int32) _ h) (cwV 2 hts gX6_earth_X6_its rfl rfl rfl (by decide +kernel) ⟨Nat.le_of_ble_eq_true rfl, Nat.le_of_ble_eq_true rfl⟩) (mpreV E0_ok hK hE hA hw (Sub1.refl _) 0 rfl rfl) rfl rfl hl.1 rfl (lv_room (Nat.le_of_ble_eq_true rfl)) dX6_earth_11 ⟨Nat.zero_le _, Nat.zero_le _⟩) hA hw (Sub1.refl _) (fun _ => Sub.whole rfl) (fun r3 u4 H locs h hw => ?_)
  obtain ⟨rfl, h⟩ := h
  refine lv_ior hx hb dX6_earth_14 ?_
  refine lv_iconst (v := (-1 : Int32)) hx hb dX6_earth_15 (by decide) ?_
  refine lv_ixor hx hb dX6_earth_16 ?_
  refine lv_iand hx hb dX6_earth_17 ?_
  rw [hQ]
  exact mreti (w := (wM g q)) (u := (S, J)) hC hr hlocks hK hw ⟨rfl, h⟩ dX6_earth_18
def wX6_newField (S : Bun) (J : Lon)  (post : Int32 → Bun → Lon → Prop) : Prop :=
  vp_in (0 : Int32) 56 ∧ ∀ x1 : Int32, x1 = (2 : Int32) + ((6 : Int32) * (S 1 (0 : Int32).toNatClampNeg)) → vp_in (x1 + (0 : Int32)) 56 ∧ ∀ S2 : Bun, S2 = up S 1 (x1 + (0 : Int32)).toNatClampNeg (0 : Int32) → vp_in (x1 + (1 : Int32)) 56 ∧ ∀ S3 : Bun, S3 = up S2 1 (x1 + (1 : Int32)).toNatClampNeg (0 : Int32) → vp_in (x1 + (2 : Int32)) 56 ∧ ∀ S4 : Bun, S4 = up S3 1 (x1 + (2 : Int32)).toNatClampNeg (-1 : Int32) → vp_in (x1 + (3 : Int32)) 56 ∧ ∀ S5 : Bun, S5 = up S4 1 (x1 + (3 : Int32)).toNatClampNeg (-1 : Int32) → vp_in (x1 + (4 : Int32)) 56 ∧ ∀ S6 : Bun, S6 = up S5 1 (x1 + (4 : Int32)).toNatClampNeg (0 : Int32) → vp_in (x1 + (5 : Int32)) 56 ∧ ∀ S7 : Bun, S7 = up S6 1 (x1 + (5 : Int32)).toNatClampNeg (100 : Int32) → vp_in (0 : Int32) 56 ∧ vp_in ((38 : Int32) + (S7 1 (0 : Int32).toNatClampNeg)) 56 ∧ ∀ S8 : Bun, S8 = up S7 1 ((38 : Int32) + (S7 1 (0 : Int32).toNatClampNeg)).toNatClampNeg (0 : Int32) → vp_in (0 : Int32) 56 ∧ vp_in (0 : Int32) 56 ∧ ∀ S9 : Bun, S9 = up S8 1 (0 : Int32).toNatClampNeg ((S8 1 (0 : Int32).toNatClampNeg) + (1 : Int32)) → vp_in (0 : Int32) 56 ∧ post ((S9 1 (0 : Int32).toNatClampNeg) - (1 : Int32)) S9 J
set_option maxRecDepth 100000 in
set_option maxHeartbeats 4000000 in
theorem kX6_newField (l : Launch) (g : Gl)  (q : Nat → Nat) (sz : Nat) (S : Bun) (J : Lon)  (post : Int32 → Bun → Lon → Prop) (h : wX6_newField S J  post) : Met l yX6_newField wsX6_newField (rmm 0 0) (wPc g E0 ((wM g q) (S, J)) sz [.ref (q 0)]) (va_Qi (fun (r : Int32) (u : Bun × Lon) => post r u.1 u.2) (wB g (wM g q) (va_A ((wM g q) (S, J)) sz)) (va_A ((wM g q) (S, J)) sz)) 0 0 (va_A ((wM g q) (S, J)) sz) := by
  refine mstart (Qf := fun A => va_Qi (fun (r : Int32) (u : Bun × Lon) => post r u.1 u.2) (wB g (wM g q) A) A) (by decide) rfl (Nat.le_of_ble_eq_true rfl) ?_
  intro p e s m args below meth c A Q H locs ls hC hr hlocks hname hQ hA hK hE hw hl
  have hC : CallFix p m c cX6_newField 2 s args wsX6_newField RX6 := hC
  obtain ⟨hx, hb, -, hown, hts⟩ := id hC
  have hl : lv_has ls 2 [(0, .ref (q 0))] := hl
  rw [wX6_newField] at h
  have hinX6 : ∀ w ∈ wsX60, w ∈ wsX6_newField := fun w hw9 => List.mem_cons_of_mem _ (List.mem_append_right _ hw9)
  refine lv_iconst (v := (2 : Int32)) hx hb dX6_newField_0 (by decide) ?_
  refine lv_bipush (v := (6 : Int32)) hx hb dX6_newField_1 (by decide) ?_
  refine lv_aload_n hx hb dX6_newField_3 rfl (lv_at hl 0 rfl) ?_
  refine M_mg0 hC hinX6 hK hw (List.mem_of_getElem? (i := 1) rfl) dX6_newField_4 ?_
  refine lv_iconst (v := (0 : Int32)) hx hb dX6_newField_7 (by decide) ?_
  obtain ⟨hi, h⟩ := h
  refine M_ml0 hC hK hw hi dX6_newField_8 ?_
  refine lv_imul hx hb dX6_newField_9 ?_
  refine lv_iadd hx hb dX6_newField_10 ?_
  refine lv_topi (fun x1 ex1 => ?_)
  replace h := h x1 ex1
  refine lv_istore_n (lv' := [(1, .int x1), (0, .ref (q 0))]) hx hb dX6_newField_11 rfl hl (by decide) rfl (fun ls hl => ?_)
  refine lv_aload_n hx hb dX6_newField_12 rfl (lv_at hl 1 rfl) ?_
  refine M_mg0 hC hinX6 hK hw (List.mem_of_getElem? (i := 1) rfl) dX6_newField_13 ?_
  refine lv_iload_n hx hb dX6_newField_16 rfl (lv_at hl 0 rfl) ?_
  refine lv_iconst (v := (0 : Int32)) hx hb dX6_newField_17 (by decide) ?_
  refine lv_iadd hx hb dX6_newField_18 ?_
  refine lv_iconst (v := (0 : Int32)) hx hb dX6_newField_19 (by decide) ?_
  obtain ⟨hi, h⟩ := h
  refine M_ms0 hC hK hw hi dX6_newField_20 (fun S2 H locs eS2 hw => ?_)
  replace h := h S2 eS2
  refine lv_aload_n hx hb dX6_newField_21 rfl (lv_at hl 1 rfl) ?_
  refine M_mg0 hC hinX6 hK hw (List.mem_of_getElem? (i := 1) rfl) dX6_newField_22 ?_
  refine lv_iload_n hx hb dX6_newField_25 rfl (lv_at hl 0 rfl) ?_
  refine lv_iconst (v := (1 : Int32)) hx hb dX6_newField_26 (by decide) ?_
  refine lv_iadd hx hb dX6_newField_27 ?_
  refine lv_iconst (v := (0 : Int32)) hx hb dX6_newField_28 (by decide) ?_
  obtain ⟨hi, h⟩ := h
  refine M_ms0 hC hK hw hi dX6_newField_29 (fun S3 H locs eS3 hw => ?_)
  replace h := h S3 eS3
  refine lv_aload_n hx hb dX6_newField_30 rfl (lv_at hl 1 rfl) ?_
  refine M_mg0 hC hinX6 hK hw (List.mem_of_getElem? (i := 1) rfl) dX6_newField_31 ?_
  refine lv_iload_n hx hb dX6_newField_34 rfl (lv_at hl 0 rfl) ?_
  refine lv_iconst (v := (2 : Int32)) hx hb dX6_newField_35 (by decide) ?_
  refine lv_iadd hx hb dX6_newField_36 ?_
  refine lv_iconst (v := (-1 : Int32)) hx hb dX6_newField_37 (by decide) ?_
  obtain ⟨hi, h⟩ := h
  refine M_ms0 hC hK hw hi dX6_newField_38 (fun S4 H locs eS4 hw => ?_)
  replace h := h S4 eS4
  refine lv_aload_n hx hb dX6_newField_39 rfl (lv_at hl 1 rfl) ?_
  refine M_mg0 hC hinX6 hK hw (List.mem_of_getElem? (i := 1) rfl) dX6_newField_40 ?_
  refine lv_iload_n hx hb dX6_newField_43 rfl (lv_at hl 0 rfl) ?_
  refine lv_iconst (v := (3 : Int32)) hx hb dX6_newField_44 (by decide) ?_
  refine lv_iadd hx hb dX6_newField_45 ?_
  refine lv_iconst (v := (-1 : Int32)) hx hb dX6_newField_46 (by decide) ?_
  obtain ⟨hi, h⟩ := h
  refine M_ms0 hC hK hw hi dX6_newField_47 (fun S5 H locs eS5 hw => ?_)
  replace h := h S5 eS5
  refine lv_aload_n hx hb dX6_newField_48 rfl (lv_at hl 1 rfl) ?_
  refine M_mg0 hC hinX6 hK hw (List.mem_of_getElem? (i := 1) rfl) dX6_newField_49 ?_
  refine lv_iload_n hx hb dX6_newField_52 rfl (lv_at hl 0 rfl) ?_
  refine lv_iconst (v := (4 : Int32)) hx hb dX6_newField_53 (by decide) ?_
  refine lv_iadd hx hb dX6_newField_54 ?_
  refine lv_iconst (v := (0 : Int32)) hx hb dX6_newField_55 (by decide) ?_
  obtain ⟨hi, h⟩ := h
  refine M_ms0 hC hK hw hi dX6_newField_56 (fun S6 H locs eS6 hw => ?_)
  replace h := h S6 eS6
  refine lv_aload_n hx hb dX6_newField_57 rfl (lv_at hl 1 rfl) ?_
  refine M_mg0 hC hinX6 hK hw (List.mem_of_getElem? (i := 1) rfl) dX6_newField_58 ?_
  refine lv_iload_n hx hb dX6_newField_61 rfl (lv_at hl 0 rfl) ?_
  refine lv_iconst (v := (5 : Int32)) hx hb dX6_newField_62 (by decide) ?_
  refine lv_iadd hx hb dX6_newField_63 ?_
  refine lv_bipush (v := (100 : Int32)) hx hb dX6_newField_64 (by decide) ?_
  obtain ⟨hi, h⟩ := h
  refine M_ms0 hC hK hw hi dX6_newField_66 (fun S7 H locs eS7 hw => ?_)
  replace h := h S7 eS7
  refine lv_aload_n hx hb dX6_newField_67 rfl (lv_at hl 1 rfl) ?_
  refine M_mg0 hC hinX6 hK hw (List.mem_of_getElem? (i := 1) rfl) dX6_newField_68 ?_
  refine lv_bipush (v := (38 : Int32)) hx hb dX6_newField_71 (by decide) ?_
  refine lv_aload_n hx hb dX6_newField_73 rfl (lv_at hl 1 rfl) ?_
  refine M_mg0 hC hinX6 hK hw (List.mem_of_getElem? (i := 1) rfl) dX6_newField_74 ?_
  refine lv_iconst (v := (0 : Int32)) hx hb dX6_newField_77 (by decide) ?_
  obtain ⟨hi, h⟩ := h
  refine M_ml0 hC hK hw hi dX6_newField_78 ?_
  refine lv_iadd hx hb dX6_newField_79 ?_
  refine lv_iconst (v := (0 : Int32)) hx hb dX6_newField_80 (by decide) ?_
  obtain ⟨hi, h⟩ := h
  refine M_ms0 hC hK hw hi dX6_newField_81 (fun S8 H locs eS8 hw => ?_)
  replace h := h S8 eS8
  refine lv_aload_n hx hb dX6_newField_82 rfl (lv_at hl 1 rfl) ?_
  refine M_mg0 hC hinX6 hK hw (List.mem_of_getElem? (i := 1) rfl) dX6_newField_83 ?_
  refine lv_iconst (v := (0 : Int32)) hx hb dX6_newField_86 (by decide) ?_
  refine lv_dup2_11 hx hb dX6_newField_87 rfl rfl ?_
  obtain ⟨hi, h⟩ := h
  refine M_ml0 hC hK hw hi dX6_newField_88 ?_
  refine lv_iconst (v := (1 : Int32)) hx hb dX6_newField_89 (by decide) ?_
  refine lv_iadd hx hb dX6_newField_90 ?_
  obtain ⟨hi, h⟩ := h
  refine M_ms0 hC hK hw hi dX6_newField_91 (fun S9 H locs eS9 hw => ?_)
  replace h := h S9 eS9
  refine lv_aload_n hx hb dX6_newField_92 rfl (lv_at hl 1 rfl) ?_
  refine M_mg0 hC hinX6 hK hw (List.mem_of_getElem? (i := 1) rfl) dX6_newField_93 ?_
  refine lv_iconst (v := (0 : Int32)) hx hb dX6_newField_96 (by decide) ?_
  obtain ⟨hi, h⟩ := h
  refine M_ml0 hC hK hw hi dX6_newField_97 ?_
  refine lv_iconst (v := (1 : Int32)) hx hb dX6_newField_98 (by decide) ?_
  refine lv_isub hx hb dX6_newField_99 ?_
  rw [hQ]
  exact mreti (w := (wM g q)) (u := (S9, J)) hC hr hlocks hK hw h dX6_newField_100
def wX6_kindOf (S : Bun) (J : Lon) (a1 : Int32) (post : Int32 → Prop) : Prop :=
  vp_in ((44 : Int32) + ((2 : Int32) * a1)) 56 ∧ post (S 1 ((44 : Int32) + ((2 : Int32) * a1)).toNatClampNeg)
set_option maxRecDepth 100000 in
set_option maxHeartbeats 4000000 in
theorem kX6_kindOf (l : Launch) (g : Gl)  (q : Nat → Nat) (sz : Nat) (S : Bun) (J : Lon) (a1 : Int32) (post : Int32 → Prop) (h : wX6_kindOf S J a1 post) : Met l yX6_kindOf wsX6_kindOf (rmm 0 0) (wPc g E0 ((wM g q) (S, J)) sz [.ref (q 0), .int a1]) (va_Qi (fun (r : Int32) (u : Bun × Lon) => u = (S, J) ∧ post r) (wB g (wM g q) (va_A ((wM g q) (S, J)) sz)) (va_A ((wM g q) (S, J)) sz)) 0 0 (va_A ((wM g q) (S, J)) sz) := by
  refine mstart (Qf := fun A => va_Qi (fun (r : Int32) (u : Bun × Lon) => u = (S, J) ∧ post r) (wB g (wM g q) A) A) (by decide) rfl (Nat.le_of_ble_eq_true rfl) ?_
  intro p e s m args below meth c A Q H locs ls hC hr hlocks hname hQ hA hK hE hw hl
  have hC : CallFix p m c cX6_kindOf 2 s args wsX6_kindOf RX6 := hC
  obtain ⟨hx, hb, -, hown, hts⟩ := id hC
  have hl : lv_has ls 2 [(0, .ref (q 0)), (1, .int a1)] := hl
  rw [wX6_kindOf] at h
  have hinX6 : ∀ w ∈ wsX60, w ∈ wsX6_kindOf := fun w hw9 => List.mem_cons_of_mem _ (List.mem_append_right _ hw9)
  refine lv_aload_n hx hb dX6_kindOf_0 rfl (lv_at hl 0 rfl) ?_
  refine M_mg0 hC hinX6 hK hw (List.mem_of_getElem? (i := 1) rfl) dX6_kindOf_1 ?_
  refine lv_bipush (v := (44 : Int32)) hx hb dX6_kindOf_4 (by decide) ?_
  refine lv_iconst (v := (2 : Int32)) hx hb dX6_kindOf_6 (by decide) ?_
  refine lv_iload_n hx hb dX6_kindOf_7 rfl (lv_at hl 1 rfl) ?_
  refine lv_imul hx hb dX6_kindOf_8 ?_
  refine lv_iadd hx hb dX6_kindOf_9 ?_
  obtain ⟨hi, h⟩ := h
  refine M_ml0 hC hK hw hi dX6_kindOf_10 ?_
  rw [hQ]
  exact mreti (w := (wM g q)) (u := (S, J)) hC hr hlocks hK hw ⟨rfl, h⟩ dX6_kindOf_11
def wX6_dear (S : Bun) (J : Lon) (a1 : Int32) (post : Int32 → Prop) : Prop :=
  wX6_kindOf S J a1 (fun r1 => ∀ x3 : Int32, x3 = r1 → ((x3 = (1 : Int32) → post (1 : Int32)) ∧ (x3 = (2 : Int32) → post (2 : Int32)) ∧ (x3 = (3 : Int32) → post (3 : Int32)) ∧ (x3 = (4 : Int32) → post (1 : Int32)) ∧ (x3 = (5 : Int32) → post (6 : Int32)) ∧ ((x3.toInt < 1 ∨ 5 < x3.toInt) → post (2 : Int32))))
set_option maxRecDepth 100000 in
set_option maxHeartbeats 4000000 in
theorem kX6_dear (l : Launch) (g : Gl)  (q : Nat → Nat) (sz : Nat) (S : Bun) (J : Lon) (a1 : Int32) (post : Int32 → Prop) (h : wX6_dear S J a1 post) : Met l yX6_dear wsX6_dear (rmm 1 21) (wPc g E0 ((wM g q) (S, J)) sz [.ref (q 0), .int a1]) (va_Qi (fun (r : Int32) (u : Bun × Lon) => u = (S, J) ∧ post r) (wB g (wM g q) (va_A ((wM g q) (S, J)) sz)) (va_A ((wM g q) (S, J)) sz)) 0 0 (va_A ((wM g q) (S, J)) sz) := by
  refine mstart (Qf := fun A => va_Qi (fun (r : Int32) (u : Bun × Lon) => u = (S, J) ∧ post r) (wB g (wM g q) A) A) (by decide) rfl (Nat.le_of_ble_eq_true rfl) ?_
  intro p e s m args below meth c A Q H locs ls hC hr hlocks hname hQ hA hK hE hw hl
  have hC : CallFix p m c cX6_dear 2 s args wsX6_dear RX6 := hC
  obtain ⟨hx, hb, -, hown, hts⟩ := id hC
  have hl : lv_has ls 2 [(0, .ref (q 0)), (1, .int a1)] := hl
  rw [wX6_dear] at h
  refine lv_aload_n hx hb dX6_dear_0 rfl (lv_at hl 0 rfl) ?_
  refine lv_iload_n hx hb dX6_dear_1 rfl (lv_at hl 1 rfl) ?_
  refine mcalli (w1 := (wM g q)) (va_runV (As := [.int a1]) (rest := []) hC (kX6_kindOf l g  q H.size S J a1 _ h) (cwV 1 hts gX6_dear_X6_kindOf rfl rfl rfl (by decide +kernel) ⟨Nat.le_of_ble_eq_true rfl, Nat.le_of_ble_eq_true rfl⟩) (mpreV E0_ok hK hE hA hw (Sub1.refl _) 0 rfl rfl) rfl rfl hl.1 rfl (lv_room (Nat.le_of_ble_eq_true rfl)) dX6_dear_2 ⟨Nat.zero_le _, Nat.zero_le _⟩) hA hw (Sub1.refl _) (fun _ => Sub.whole rfl) (fun r1 u2 H locs h hw => ?_)
  obtain ⟨rfl, h⟩ := h
  refine lv_topi (fun x3 ex3 => ?_)
  replace h := h x3 ex3
  rcases sw1_5 x3 with c4 | c4 | c4 | c4 | c4 | c4
  · replace h := h.1 c4
    rw [c4]
    refine lv_tableIn (tgt := 40) (off := 35) hx hb dX6_dear_5 (by decide) (by decide) rfl (by decide) ?_
    refine lv_iconst (v := (1 : Int32)) hx hb dX6_dear_40 (by decide) ?_
    rw [hQ]
    exact mreti (w := (wM g q)) (u := (S, J)) hC hr hlocks hK hw ⟨rfl, h⟩ dX6_dear_41
  · replace h := h.2.1 c4
    rw [c4]
    refine lv_tableIn (tgt := 47) (off := 42) hx hb dX6_dear_5 (by decide) (by decide) rfl (by decide) ?_
    refine lv_iconst (v := (2 : Int32)) hx hb dX6_dear_47 (by decide) ?_
    rw [hQ]
    exact mreti (w := (wM g q)) (u := (S, J)) hC hr hlocks hK hw ⟨rfl, h⟩ dX6_dear_48
  · replace h := h.2.2.1 c4
    rw [c4]
    refine lv_tableIn (tgt := 42) (off := 37) hx hb dX6_dear_5 (by decide) (by decide) rfl (by decide) ?_
    refine lv_iconst (v := (3 : Int32)) hx hb dX6_dear_42 (by decide) ?_
    rw [hQ]
    exact mreti (w := (wM g q)) (u := (S, J)) hC hr hlocks hK hw ⟨rfl, h⟩ dX6_dear_43
  · replace h := h.2.2.2.1 c4
    rw [c4]
    refine lv_tableIn (tgt := 40) (off := 35) hx hb dX6_dear_5 (by decide) (by decide) rfl (by decide) ?_
    refine lv_iconst (v := (1 : Int32)) hx hb dX6_dear_40 (by decide) ?_
    rw [hQ]
    exact mreti (w := (wM g q)) (u := (S, J)) hC hr hlocks hK hw ⟨rfl, h⟩ dX6_dear_41
  · replace h := h.2.2.2.2.1 c4
    rw [c4]
    refine lv_tableIn (tgt := 44) (off := 39) hx hb dX6_dear_5 (by decide) (by decide) rfl (by decide) ?_
    refine lv_bipush (v := (6 : Int32)) hx hb dX6_dear_44 (by decide) ?_
    rw [hQ]
    exact mreti (w := (wM g q)) (u := (S, J)) hC hr hlocks hK hw ⟨rfl, h⟩ dX6_dear_46
  · replace h := h.2.2.2.2.2 c4
    refine lv_tableOut (tgt := 47) hx hb dX6_dear_5 c4 (by decide) ?_
    refine lv_iconst (v := (2 : Int32)) hx hb dX6_dear_47 (by decide) ?_
    rw [hQ]
    exact mreti (w := (wM g q)) (u := (S, J)) hC hr hlocks hK hw ⟨rfl, h⟩ dX6_dear_48
