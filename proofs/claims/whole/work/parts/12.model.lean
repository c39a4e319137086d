def wX6_in  (a1 : Int64) (a2 : Int64) (a3 : Int64) (post : Int32 → Prop) : Prop :=
  (((lg_cmp a1 a2) < 0 → post (0 : Int32)) ∧ (¬ ((lg_cmp a1 a2) < 0) → ((0 < (lg_cmp a1 a3) → post (0 : Int32)) ∧ (¬ (0 < (lg_cmp a1 a3)) → post (1 : Int32)))))
set_option maxRecDepth 100000 in
set_option maxHeartbeats 4000000 in
theorem kX6_in (l : Launch) (g : Gl)   (sz : Nat)  (a1 : Int64) (a2 : Int64) (a3 : Int64) (post : Int32 → Prop) (h : wX6_in  a1 a2 a3 post) : Met l yX6_in wsX6_in (rmm 0 0) (wPc g E0 (([] : va_W)) sz [.long a1, .long a2, .long a3]) (va_Qi (fun (r : Int32) (u : Unit) => u = () ∧ post r) (wB g (fun _ : Unit => ([] : va_W)) (va_A (([] : va_W)) sz)) (va_A (([] : va_W)) sz)) 0 0 (va_A (([] : va_W)) sz) := by
  refine mstart (Qf := fun A => va_Qi (fun (r : Int32) (u : Unit) => u = () ∧ post r) (wB g (fun _ : Unit => ([] : va_W)) A) A) (by decide) rfl (Nat.le_of_ble_eq_true rfl) ?_
  intro p e s m args below meth c A Q H locs ls hC hr hlocks hname hQ hA hK hE hw hl
  have hC : CallFix p m c cX6_in 6 s args wsX6_in RX6 := hC
  obtain ⟨hx, hb, -, hown, hts⟩ := id hC
  have hl : lv_has ls 6 [(0, .long a1), (2, .long a2), (4, .long a3)] := hl
  rw [wX6_in] at h
  refine lv_lload_n hx hb dX6_in_0 rfl (lv_at hl 0 rfl) ?_
  refine lv_lload_n hx hb dX6_in_1 rfl (lv_at hl 1 rfl) ?_
  refine W.lcmp hx hb dX6_in_2 ?_
  refine lv_if_lt (tgt := 17) hx hb dX6_in_3 (by decide) (fun c2 => ?_) (fun c2 => ?_)
  · replace h := h.1 c2
    refine lv_iconst (v := (0 : Int32)) hx hb dX6_in_17 (by decide) ?_
    rw [hQ]
    exact mretz (w := (fun _ : Unit => ([] : va_W))) (u := ()) hC hr hlocks hK hw (Or.inl rfl) ⟨rfl, h⟩ dX6_in_18
  · replace h := h.2 c2
    refine lv_lload_n hx hb dX6_in_6 rfl (lv_at hl 0 rfl) ?_
    refine lv_lload hx hb dX6_in_7 (lv_at hl 2 rfl) ?_
    refine W.lcmp hx hb dX6_in_9 ?_
    refine lv_if_gt (tgt := 17) hx hb dX6_in_10 (by decide) (fun c1 => ?_) (fun c1 => ?_)
    · replace h := h.1 c1
      refine lv_iconst (v := (0 : Int32)) hx hb dX6_in_17 (by decide) ?_
      rw [hQ]
      exact mretz (w := (fun _ : Unit => ([] : va_W))) (u := ()) hC hr hlocks hK hw (Or.inl rfl) ⟨rfl, h⟩ dX6_in_18
    · replace h := h.2 c1
      refine lv_iconst (v := (1 : Int32)) hx hb dX6_in_13 (by decide) ?_
      refine lv_goto (tgt := 18) hx hb dX6_in_14 (by decide) ?_
      rw [hQ]
      exact mretz (w := (fun _ : Unit => ([] : va_W))) (u := ()) hC hr hlocks hK hw (Or.inr rfl) ⟨rfl, h⟩ dX6_in_18
def wX6_finds (S : Bun) (J : Lon) (a1 : Int32) (post : Int32 → Bun → Prop) : Prop :=
  vp_in ((-1000000001 : Int32) - a1) 7 ∧ vp_in ((-1000000001 : Int32) - a1) 7 ∧ ∀ S1 : Bun, S1 = up S 4 ((-1000000001 : Int32) - a1).toNatClampNeg ((S 4 ((-1000000001 : Int32) - a1).toNatClampNeg) + (1 : Int32)) → post a1 S1
set_option maxRecDepth 100000 in
set_option maxHeartbeats 4000000 in
theorem kX6_finds (l : Launch) (g : Gl)  (q : Nat → Nat) (sz : Nat) (S : Bun) (J : Lon) (a1 : Int32) (post : Int32 → Bun → Prop) (h : wX6_finds S J a1 post) : Met l yX6_finds wsX6_finds (rmm 0 0) (wPc g E0 ((wM g q) (S, J)) sz [.ref (q 0), .int a1]) (va_Qi (fun (r : Int32) (u : Bun × Lon) => u.2 = J ∧ post r u.1) (wB g (wM g q) (va_A ((wM g q) (S, J)) sz)) (va_A ((wM g q) (S, J)) sz)) 0 0 (va_A ((wM g q) (S, J)) sz) := by
  refine mstart (Qf := fun A => va_Qi (fun (r : Int32) (u : Bun × Lon) => u.2 = J ∧ post r u.1) (wB g (wM g q) A) A) (by decide) rfl (Nat.le_of_ble_eq_true rfl) ?_
  intro p e s m args below meth c A Q H locs ls hC hr hlocks hname hQ hA hK hE hw hl
  have hC : CallFix p m c cX6_finds 2 s args wsX6_finds RX6 := hC
  obtain ⟨hx, hb, -, hown, hts⟩ := id hC
  have hl : lv_has ls 2 [(0, .ref (q 0)), (1, .int a1)] := hl
  rw [wX6_finds] at h
  have hinX6 : ∀ w ∈ wsX60, w ∈ wsX6_finds := fun w hw9 => List.mem_cons_of_mem _ (List.mem_append_right _ hw9)
  refine lv_aload_n hx hb dX6_finds_0 rfl (lv_at hl 0 rfl) ?_
  refine M_mg3 hC hinX6 hK hw (List.mem_of_getElem? (i := 1) rfl) dX6_finds_1 ?_
  refine lv_ldc (v := (-1000000001 : Int32)) hx hb hown (hts (.constant RX6 68 (-1000000001)) (List.mem_of_getElem? (i := 2) rfl)) dX6_finds_4 ?_
  refine lv_iload_n hx hb dX6_finds_6 rfl (lv_at hl 1 rfl) ?_
  refine lv_isub hx hb dX6_finds_7 ?_
  refine lv_dup2_11 hx hb dX6_finds_8 rfl rfl ?_
  obtain ⟨hi, h⟩ := h
  refine M_ml3 hC hK hw hi dX6_finds_9 ?_
  refine lv_iconst (v := (1 : Int32)) hx hb dX6_finds_10 (by decide) ?_
  refine lv_iadd hx hb dX6_finds_11 ?_
  obtain ⟨hi, h⟩ := h
  refine M_ms3 hC hK hw hi dX6_finds_12 (fun S1 H locs eS1 hw => ?_)
  replace h := h S1 eS1
  refine lv_iload_n hx hb dX6_finds_13 rfl (lv_at hl 1 rfl) ?_
  rw [hQ]
  exact mreti (w := (wM g q)) (u := (S1, J)) hC hr hlocks hK hw ⟨rfl, h⟩ dX6_finds_14
def wX6_isField (S : Bun) (J : Lon) (a1 : Int32) (post : Int32 → Prop) : Prop :=
  vp_in (0 : Int32) 56 ∧ wX6_in a1.toInt64 (0 : Int64) (((S 1 (0 : Int32).toNatClampNeg) - (1 : Int32)).toInt64) (fun r1 => zb r1 ∧ post r1)
set_option maxRecDepth 100000 in
set_option maxHeartbeats 4000000 in
theorem kX6_isField (l : Launch) (g : Gl)  (q : Nat → Nat) (sz : Nat) (S : Bun) (J : Lon) (a1 : Int32) (post : Int32 → Prop) (h : wX6_isField S J a1 post) : Met l yX6_isField wsX6_isField (rmm 1 25) (wPc g E0 ((wM g q) (S, J)) sz [.ref (q 0), .int a1]) (va_Qi (fun (r : Int32) (u : Bun × Lon) => u = (S, J) ∧ post r) (wB g (wM g q) (va_A ((wM g q) (S, J)) sz)) (va_A ((wM g q) (S, J)) sz)) 0 0 (va_A ((wM g q) (S, J)) sz) := by
  refine mstart (Qf := fun A => va_Qi (fun (r : Int32) (u : Bun × Lon) => u = (S, J) ∧ post r) (wB g (wM g q) A) A) (by decide) rfl (Nat.le_of_ble_eq_true rfl) ?_
  intro p e s m args below meth c A Q H locs ls hC hr hlocks hname hQ hA hK hE hw hl
  have hC : CallFix p m c cX6_isField 2 s args wsX6_isField RX6 := hC
  obtain ⟨hx, hb, -, hown, hts⟩ := id hC
  have hl : lv_has ls 2 [(0, .ref (q 0)), (1, .int a1)] := hl
  rw [wX6_isField] at h
  have hinX6 : ∀ w ∈ wsX60, w ∈ wsX6_isField := fun w hw9 => List.mem_cons_of_mem _ (List.mem_append_right _ hw9)
  refine lv_iload_n hx hb dX6_isField_0 rfl (lv_at hl 1 rfl) ?_
  refine lv_i2l (v := a1.toInt64) hx hb dX6_isField_1 rfl ?_
  refine lv_lconst (v := (0 : Int64)) hx hb dX6_isField_2 (by decide) ?_
  refine lv_aload_n hx hb dX6_isField_3 rfl (lv_at hl 0 rfl) ?_
  refine M_mg0 hC hinX6 hK hw (List.mem_of_getElem? (i := 1) rfl) dX6_isField_4 ?_
  refine lv_iconst (v := (0 : Int32)) hx hb dX6_isField_7 (by decide) ?_
  obtain ⟨hi, h⟩ := h
  refine M_ml0 hC hK hw hi dX6_isField_8 ?_
  refine lv_iconst (v := (1 : Int32)) hx hb dX6_isField_9 (by decide) ?_
  refine lv_isub hx hb dX6_isField_10 ?_
  refine lv_i2l (v := ((S 1 (0 : Int32).toNatClampNeg) - (1 : Int32)).toInt64) hx hb dX6_isField_11 rfl ?_
  refine mcalli (w1 := (fun _ => (wM g q) (S, J))) (wc := fun _ : Unit => ([] : va_W)) (u := ()) (va_runS (As := [.long a1.toInt64, .long (0 : Int64), .long (((S 1 (0 : Int32).toNatClampNeg) - (1 : Int32)).toInt64)]) (rest := []) hC (kX6_in l g  H.size a1.toInt64 (0 : Int64) (((S 1 (0 : Int32).toNatClampNeg) - (1 : Int32)).toInt64) _ h) (va_cwS 3 hts gX6_isField_X6_in rfl rfl rfl (by decide +kernel) ⟨Nat.le_of_ble_eq_true rfl, Nat.le_of_ble_eq_true rfl⟩) (mpre E0_ok hK hE hA hw (Sub1.nil _)) rfl rfl hl.1 rfl (lv_room (Nat.le_of_ble_eq_true rfl)) dX6_isField_12 ⟨Nat.zero_le _, Nat.zero_le _⟩) hA hw (Sub1.nil _) (fun _ => Sub.nil _) (fun r1 u2 H locs h hw => ?_)
  obtain ⟨_, h⟩ := h
  obtain ⟨hz, h⟩ := h
  rw [hQ]
  exact mretz (w := (wM g q)) (u := (S, J)) hC hr hlocks hK hw hz ⟨rfl, h⟩ dX6_isField_15
def wX6_isTeam (S : Bun) (J : Lon) (a1 : Int32) (post : Int32 → Prop) : Prop :=
  vp_in (1 : Int32) 56 ∧ wX6_in a1.toInt64 (0 : Int64) (((S 1 (1 : Int32).toNatClampNeg) - (1 : Int32)).toInt64) (fun r1 => zb r1 ∧ post r1)
set_option maxRecDepth 100000 in
set_option maxHeartbeats 4000000 in
theorem kX6_isTeam (l : Launch) (g : Gl)  (q : Nat → Nat) (sz : Nat) (S : Bun) (J : Lon) (a1 : Int32) (post : Int32 → Prop) (h : wX6_isTeam S J a1 post) : Met l yX6_isTeam wsX6_isTeam (rmm 1 25) (wPc g E0 ((wM g q) (S, J)) sz [.ref (q 0), .int a1]) (va_Qi (fun (r : Int32) (u : Bun × Lon) => u = (S, J) ∧ post r) (wB g (wM g q) (va_A ((wM g q) (S, J)) sz)) (va_A ((wM g q) (S, J)) sz)) 0 0 (va_A ((wM g q) (S, J)) sz) := by
  refine mstart (Qf := fun A => va_Qi (fun (r : Int32) (u : Bun × Lon) => u = (S, J) ∧ post r) (wB g (wM g q) A) A) (by decide) rfl (Nat.le_of_ble_eq_true rfl) ?_
  intro p e s m args below meth c A Q H locs ls hC hr hlocks hname hQ hA hK hE hw hl
  have hC : CallFix p m c cX6_isTeam 2 s args wsX6_isTeam RX6 := hC
  obtain ⟨hx, hb, -, hown, hts⟩ := id hC
  have hl : lv_has ls 2 [(0, .ref (q 0)), (1, .int a1)] := hl
  rw [wX6_isTeam] at h
  have hinX6 : ∀ w ∈ wsX60, w ∈ wsX6_isTeam := fun w hw9 => List.mem_cons_of_mem _ (List.mem_append_right _ hw9)
  refine lv_iload_n hx hb dX6_isTeam_0 rfl (lv_at hl 1 rfl) ?_
  refine lv_i2l (v := a1.toInt64) hx hb dX6_isTeam_1 rfl ?_
  refine lv_lconst (v := (0 : Int64)) hx hb dX6_isTeam_2 (by decide) ?_
  refine lv_aload_n hx hb dX6_isTeam_3 rfl (lv_at hl 0 rfl) ?_
  refine M_mg0 hC hinX6 hK hw (List.mem_of_getElem? (i := 1) rfl) dX6_isTeam_4 ?_
  refine lv_iconst (v := (1 : Int32)) hx hb dX6_isTeam_7 (by decide) ?_
  obtain ⟨hi, h⟩ := h
  refine M_ml0 hC hK hw hi dX6_isTeam_8 ?_
  refine lv_iconst (v := (1 : Int32)) hx hb dX6_isTeam_9 (by decide) ?_
  refine lv_isub hx hb dX6_isTeam_10 ?_
  refine lv_i2l (v := ((S 1 (1 : Int32).toNatClampNeg) - (1 : Int32)).toInt64) hx hb dX6_isTeam_11 rfl ?_
  refine mcalli (w1 := (fun _ => (wM g q) (S, J))) (wc := fun _ : Unit => ([] : va_W)) (u := ()) (va_runS (As := [.long a1.toInt64, .long (0 : Int64), .long (((S 1 (1 : Int32).toNatClampNeg) - (1 : Int32)).toInt64)]) (rest := []) hC (kX6_in l g  H.size a1.toInt64 (0 : Int64) (((S 1 (1 : Int32).toNatClampNeg) - (1 : Int32)).toInt64) _ h) (va_cwS 3 hts gX6_isTeam_X6_in rfl rfl rfl (by decide +kernel) ⟨Nat.le_of_ble_eq_true rfl, Nat.le_of_ble_eq_true rfl⟩) (mpre E0_ok hK hE hA hw (Sub1.nil _)) rfl rfl hl.1 rfl (lv_room (Nat.le_of_ble_eq_true rfl)) dX6_isTeam_12 ⟨Nat.zero_le _, Nat.zero_le _⟩) hA hw (Sub1.nil _) (fun _ => Sub.nil _) (fun r1 u2 H locs h hw => ?_)
  obtain ⟨_, h⟩ := h
  obtain ⟨hz, h⟩ := h
  rw [hQ]
  exact mretz (w := (wM g q)) (u := (S, J)) hC hr hlocks hK hw hz ⟨rfl, h⟩ dX6_isTeam_15
def wX6_has  (a1 : Int32) (a2 : Int32) (post : Int32 → Prop) : Prop :=
  ((((a1 >>> (a2 &&& 31)) &&& (1 : Int32)) = (1 : Int32) → post (1 : Int32)) ∧ (¬ (((a1 >>> (a2 &&& 31)) &&& (1 : Int32)) = (1 : Int32)) → post (0 : Int32)))
set_option maxRecDepth 100000 in
set_option maxHeartbeats 4000000 in
theorem kX6_has (l : Launch) (g : Gl)   (sz : Nat)  (a1 : Int32) (a2 : Int32) (post : Int32 → Prop) (h : wX6_has  a1 a2 post) : Met l yX6_has wsX6_has (rmm 0 0) (wPc g E0 (([] : va_W)) sz [.int a1, .int a2]) (va_Qi (fun (r : Int32) (u : Unit) => u = () ∧ post r) (wB g (fun _ : Unit => ([] : va_W)) (va_A (([] : va_W)) sz)) (va_A (([] : va_W)) sz)) 0 0 (va_A (([] : va_W)) sz) := by
  refine mstart (Qf := fun A => va_Qi (fun (r : Int32) (u : Unit) => u = () ∧ post r) (wB g (fun _ : Unit => ([] : va_W)) A) A) (by decide) rfl (Nat.le_of_ble_eq_true rfl) ?_
  intro p e s m args below meth c A Q H locs ls hC hr hlocks hname hQ hA hK hE hw hl
  have hC : CallFix p m c cX6_has 2 s args wsX6_has RX6 := hC
  obtain ⟨hx, hb, -, hown, hts⟩ := id hC
  have hl : lv_has ls 2 [(0, .int a1), (1, .int a2)] := hl
  rw [wX6_has] at h
  refine lv_iload_n hx hb dX6_has_0 rfl (lv_at hl 0 rfl) ?_
  refine lv_iload_n hx hb dX6_has_1 rfl (lv_at hl 1 rfl) ?_
  refine lv_ishr hx hb dX6_has_2 ?_
  refine lv_iconst (v := (1 : Int32)) hx hb dX6_has_3 (by decide) ?_
  refine lv_iand hx hb dX6_has_4 ?_
  refine lv_iconst (v := (1 : Int32)) hx hb dX6_has_5 (by decide) ?_
  refine lv_icmp_ne (tgt := 13) hx hb dX6_has_6 (by decide) (fun c1 => ?_) (fun c1 => ?_)
  · replace h := h.2 c1
    refine lv_iconst (v := (0 : Int32)) hx hb dX6_has_13 (by decide) ?_
    rw [hQ]
    exact mretz (w := (fun _ : Unit => ([] : va_W))) (u := ()) hC hr hlocks hK hw (Or.inl rfl) ⟨rfl, h⟩ dX6_has_14
  · replace h := h.1 c1
    refine lv_iconst (v := (1 : Int32)) hx hb dX6_has_9 (by decide) ?_
    refine lv_goto (tgt := 14) hx hb dX6_has_10 (by decide) ?_
    rw [hQ]
    exact mretz (w := (fun _ : Unit => ([] : va_W))) (u := ()) hC hr hlocks hK hw (Or.inr rfl) ⟨rfl, h⟩ dX6_has_14
def wX6_ones  (a1 : Int32) (post : Int32 → Prop) : Prop :=
  wloop (σ := Int32 × Int32) (fun K3 z => match z with | (x1, x2) => ((x2 = 0 → post x1) ∧ (¬ (x2 = 0) → ∀ x9 : Int32, x9 = x1 + (1 : Int32) → ∀ x10 : Int32, x10 = x2 &&& (x2 - (1 : Int32)) → K3 (x9, x10)))) ((0 : Int32), a1)
set_option maxRecDepth 100000 in
set_option maxHeartbeats 4000000 in
theorem kX6_ones (l : Launch) (g : Gl)   (sz : Nat)  (a1 : Int32) (post : Int32 → Prop) (h : wX6_ones  a1 post) : Met l yX6_ones wsX6_ones (rmm 0 0) (wPc g E0 (([] : va_W)) sz [.int a1]) (va_Qi (fun (r : Int32) (u : Unit) => u = () ∧ post r) (wB g (fun _ : Unit => ([] : va_W)) (va_A (([] : va_W)) sz)) (va_A (([] : va_W)) sz)) 0 0 (va_A (([] : va_W)) sz) := by
  refine mstart (Qf := fun A => va_Qi (fun (r : Int32) (u : Unit) => u = () ∧ post r) (wB g (fun _ : Unit => ([] : va_W)) A) A) (by decide) rfl (Nat.le_of_ble_eq_true rfl) ?_
  intro p e s m args below meth c A Q H locs ls hC hr hlocks hname hQ hA hK hE hw hl
  have hC : CallFix p m c cX6_ones 3 s args wsX6_ones RX6 := hC
  obtain ⟨hx, hb, -, hown, hts⟩ := id hC
  have hl : lv_has ls 3 [(0, .int a1)] := hl
  rw [wX6_ones] at h
  refine lv_iconst (v := (0 : Int32)) hx hb dX6_ones_0 (by decide) ?_
  refine lv_istore_n (lv' := [(1, .int (0 : Int32)), (0, .int a1)]) hx hb dX6_ones_1 rfl hl (by decide) rfl (fun ls hl => ?_)
  refine lv_iload_n hx hb dX6_ones_2 rfl (lv_at hl 1 rfl) ?_
  refine lv_istore_n (lv' := [(2, .int a1), (1, .int (0 : Int32)), (0, .int a1)]) hx hb dX6_ones_3 rfl hl (by decide) rfl (fun ls hl => ?_)
  refine h (fun z => match z with | (x1, x2) => ∀ (H : Heap) (locs : List Loc) (ls : Array Slot), Wd g.1 A s.heap (([] : va_W)) H locs → lv_has ls 3 [(1, .int x1), (2, .int x2)] → W p l e (rmm 0 0) s m args below meth c H locs 0 0 Q (F0 m 4 ls [])) ?_ _ _ _ hw (lv_sub hl [1, 0] rfl)
  clear h hw hl
  rintro ⟨x1, x2⟩ h H locs ls hw hl
  refine lv_iload_n hx hb dX6_ones_4 rfl (lv_at hl 1 rfl) ?_
  refine lv_if_eq (tgt := 20) hx hb dX6_ones_5 (by decide) (fun c12 => ?_) (fun c12 => ?_)
  · replace h := h.1 c12
    refine lv_iload_n hx hb dX6_ones_20 rfl (lv_at hl 0 rfl) ?_
    rw [hQ]
    exact mreti (w := (fun _ : Unit => ([] : va_W))) (u := ()) hC hr hlocks hK hw ⟨rfl, h⟩ dX6_ones_21
  · replace h := h.2 c12
    obtain ⟨x9, ex9⟩ : ∃ y : Int32, y = x1 + (1 : Int32) := ⟨_, rfl⟩
    refine lv_iinc (v := x9) (lv' := [(1, .int x9), (2, .int x2)]) hx hb dX6_ones_8 hl (k := 0) rfl (by rw [ex9]; rfl) (by decide) rfl (fun ls hl => ?_)
    replace h := h x9 ex9
    refine lv_iload_n hx hb dX6_ones_11 rfl (lv_at hl 1 rfl) ?_
    refine lv_iload_n hx hb dX6_ones_12 rfl (lv_at hl 1 rfl) ?_
    refine lv_iconst (v := (1 : Int32)) hx hb dX6_ones_13 (by decide) ?_
    refine lv_isub hx hb dX6_ones_14 ?_
    refine lv_iand hx hb dX6_ones_15 ?_
    refine lv_topi (fun x10 ex10 => ?_)
    replace h := h x10 ex10
    refine lv_istore_n (lv' := [(2, .int x10), (1, .int x9)]) hx hb dX6_ones_16 rfl hl (by decide) rfl (fun ls hl => ?_)
    refine lv_goto (tgt := 4) hx hb dX6_ones_17 (by decide) ?_
    exact h _ _ _ hw (lv_sub hl [1, 0] rfl)
def wX6_its (S : Bun) (J : Lon) (a1 : Int32) (a2 : Int32) (post : Int32 → Prop) : Prop :=
  vp_in (((2 : Int32) + ((6 : Int32) * a1)) + a2) 56 ∧ post (S 1 (((2 : Int32) + ((6 : Int32) * a1)) + a2).toNatClampNeg)
set_option maxRecDepth 100000 in
set_option maxHeartbeats 4000000 in
theorem kX6_its (l : Launch) (g : Gl)  (q : Nat → Nat) (sz : Nat) (S : Bun) (J : Lon) (a1 : Int32) (a2 : Int32) (post : Int32 → Prop) (h : wX6_its S J a1 a2 post) : Met l yX6_its wsX6_its (rmm 0 0) (wPc g E0 ((wM g q) (S, J)) sz [.ref (q 0), .int a1, .int a2]) (va_Qi (fun (r : Int32) (u : Bun × Lon) => u = (S, J) ∧ post r) (wB g (wM g q) (va_A ((wM g q) (S, J)) sz)) (va_A ((wM g q) (S, J)) sz)) 0 0 (va_A ((wM g q) (S, J)) sz) := by
  refine mstart (Qf := fun A => va_Qi (fun (r : Int32) (u : Bun × Lon) => u = (S, J) ∧ post r) (wB g (wM g q) A) A) (by decide) rfl (Nat.le_of_ble_eq_true rfl) ?_
  intro p e s m args below meth c A Q H locs ls hC hr hlocks hname hQ hA hK hE hw hl
  have hC : CallFix p m c cX6_its 3 s args wsX6_its RX6 := hC
  obtain ⟨hx, hb, -, hown, hts⟩ := id hC
  have hl : lv_has ls 3 [(0, .ref (q 0)), (1, .int a1), (2, .int a2)] := hl
  rw [wX6_its] at h
  have hinX6 : ∀ w ∈ wsX60, w ∈ wsX6_its := fun w hw9 => List.mem_cons_of_mem _ (List.mem_append_right _ hw9)
  refine lv_aload_n hx hb dX6_its_0 rfl (lv_at hl 0 rfl) ?_
  refine M_mg0 hC hinX6 hK hw (List.mem_of_getElem? (i := 1) rfl) dX6_its_1 ?_
  refine lv_iconst (v := (2 : Int32)) hx hb dX6_its_4 (by decide) ?_
  refine lv_bipush (v := (6 : Int32)) hx hb dX6_its_5 (by decide) ?_
  refine lv_iload_n hx hb dX6_its_7 rfl (lv_at hl 1 rfl) ?_
  refine lv_imul hx hb dX6_its_8 ?_
  refine lv_iadd hx hb dX6_its_9 ?_
  refine lv_iload_n hx hb dX6_its_10 rfl (lv_at hl 2 rfl) ?_
  refine lv_iadd hx hb dX6_its_11 ?_
  obtain ⟨hi, h⟩ := h
  refine M_ml0 hC hK hw hi dX6_its_12 ?_
  rw [hQ]
  exact mreti (w := (wM g q)) (u := (S, J)) hC hr hlocks hK hw ⟨rfl, h⟩ dX6_its_13
def wX6_earth (S : Bun) (J : Lon) (a1 : Int32) (post : Int32 → Prop) : Prop :=
  wX6_its S J a1 (0 : Int32) (fun r1 => wX6_its S J a1 (1 : Int32) (fun r3 => post ((65535 : Int32) &&& ((r1 ||| r3) ^^^ (-1 : Int32)))))
set_option maxRecDepth 100000 in
set_option maxHeartbeats 4000000 in
theorem kX6_earth (l : Launch) (g : Gl)  (q : Nat → Nat) (sz : Nat) (S : Bun) (J : Lon) (a1 : Int32) (post : Int32 → Prop) (h : wX6_earth S J a1 post) : Met l yX6_earth wsX6_earth (rmm 1 22) (wPc g E0 ((wM g q) (S, J)) sz [.ref (q 0), .int a1]) (va_Qi (fun (r : Int32) (u : Bun × Lon) => u = (S, J) ∧ post r) (wB g (wM g q) (va_A ((wM g q) (S, J)) sz)) (va_A ((wM g q) (S, J)) sz)) 0 0 (va_A ((wM g q) (S, J)) sz) := by
  refine mstart (Qf := fun A => va_Qi (fun (r : Int32) (u : Bun × Lon) => u = (S, J) ∧ post r) (wB g (wM g q) A) A) (by decide) rfl (Nat.le_of_ble_eq_true rfl) ?_
  intro p e s m args below meth c A Q H locs ls hC hr hlocks hname hQ hA hK hE hw hl
  have hC : CallFix p m c cX6_earth 2 s args wsX6_earth RX6 := hC
  obtain ⟨hx, hb, -, hown, hts⟩ := id hC
  have hl : lv_has ls 2 [(0, .ref (q 0)), (1, .int a1)] := hl
  rw [wX6_earth] at h
  refine lv_ldc (v := (65535 : Int32)) hx hb hown (hts (.constant RX6 73 (65535)) (List.mem_of_getElem? (i := 1) rfl)) dX6_earth_0 ?_
  refine lv_aload_n hx hb dX6_earth_2 rfl (lv_at hl 0 rfl) ?_
  refine lv_iload_n hx hb dX6_earth_3 rfl (lv_at hl 1 rfl) ?_
  refine lv_iconst (v := (0 : Int32)) hx hb dX6_earth_4 (by decide) ?_
  refine mcalli (w1 := (wM g q)) (va_runV (As := [.int a1, .int (0 : Int32)]) (rest := [.int (65535 : Int32)]) hC (kX6_its l g  q H.size S J a1 (0 : Int32) _ h) (cwV 2 hts gX6_earth_X6_its rfl rfl rfl (by decide +kernel) ⟨Nat.le_of_ble_eq_true rfl, Nat.le_of_ble_eq_true rfl⟩) (mpreV E0_ok hK hE hA hw (Sub1.refl _) 0 rfl rfl) rfl rfl hl.1 rfl (lv_room (Nat.le_of_ble_eq_true rfl)) dX6_earth_5 ⟨Nat.zero_le _, Nat.zero_le _⟩) hA hw (Sub1.refl _) (fun _ => Sub.whole rfl) (fun r1 u2 H locs h hw => ?_)
  obtain ⟨hu, h⟩ := h
  replace hu := hu.symm
  subst hu
  refine lv_aload_n hx hb dX6_earth_8 rfl (lv_at hl 0 rfl) ?_
  refine lv_iload_n hx hb dX6_earth_9 rfl (lv_at hl 1 rfl) ?_
  refine lv_iconst (v := (1 : Int32)) hx hb dX6_earth_10 (by decide) ?_
  refine mcalli (w1 := (wM g q)) (va_runV (As := [.int a1, .int (1 : Int32)]) (rest := [.int r1, .int (65535 : Int32)]) hC (kX6_its l g  q H.size S J a1 (1 : Int32) _ h) (cwV 2 hts gX6_earth_X6_its rfl rfl rfl (by decide +kernel) ⟨Nat.le_of_ble_eq_true rfl, Nat.le_of_ble_eq_true rfl⟩) (mpreV E0_ok hK hE hA hw (Sub1.refl _) 0 rfl rfl) rfl rfl hl.1 rfl (lv_room (Nat.le_of_ble_eq_true rfl)) dX6_earth_11 ⟨Nat.zero_le _, Nat.zero_le _⟩) hA hw (Sub1.refl _) (fun _ => Sub.whole rfl) (fun r3 u4 H locs h hw => ?_)
  obtain ⟨hu, h⟩ := h
  replace hu := hu.symm
  subst hu
  refine lv_ior hx hb dX6_earth_14 ?_
  refine lv_iconst (v := (-1 : Int32)) hx hb dX6_earth_15 (by decide) ?_
  refine lv_ixor hx hb dX6_earth_16 ?_
  refine lv_iand hx hb dX6_earth_17 ?_
  rw [hQ]
  exact mreti (w := (wM g q)) (u := (S, J)) hC hr hlocks hK hw ⟨rfl, h⟩ dX6_earth_18
def wX6_newField (S : Bun) (J : Lon)  (post : Int32 → Bun → Prop) : Prop :=
  vp_in (0 : Int32) 56 ∧ ∀ x1 : Int32, x1 = (2 : Int32) + ((6 : Int32) * (S 1 (0 : Int32).toNatClampNeg)) → vp_in (x1 + (0 : Int32)) 56 ∧ ∀ S2 : Bun, S2 = up S 1 (x1 + (0 : Int32)).toNatClampNeg (0 : Int32) → vp_in (x1 + (1 : Int32)) 56 ∧ ∀ S3 : Bun, S3 = up S2 1 (x1 + (1 : Int32)).toNatClampNeg (0 : Int32) → vp_in (x1 + (2 : Int32)) 56 ∧ ∀ S4 : Bun, S4 = up S3 1 (x1 + (2 : Int32)).toNatClampNeg (-1 : Int32) → vp_in (x1 + (3 : Int32)) 56 ∧ ∀ S5 : Bun, S5 = up S4 1 (x1 + (3 : Int32)).toNatClampNeg (-1 : Int32) → vp_in (x1 + (4 : Int32)) 56 ∧ ∀ S6 : Bun, S6 = up S5 1 (x1 + (4 : Int32)).toNatClampNeg (0 : Int32) → vp_in (x1 + (5 : Int32)) 56 ∧ ∀ S7 : Bun, S7 = up S6 1 (x1 + (5 : Int32)).toNatClampNeg (100 : Int32) → vp_in (0 : Int32) 56 ∧ vp_in ((38 : Int32) + (S7 1 (0 : Int32).toNatClampNeg)) 56 ∧ ∀ S8 : Bun, S8 = up S7 1 ((38 : Int32) + (S7 1 (0 : Int32).toNatClampNeg)).toNatClampNeg (0 : Int32) → vp_in (0 : Int32) 56 ∧ vp_in (0 : Int32) 56 ∧ ∀ S9 : Bun, S9 = up S8 1 (0 : Int32).toNatClampNeg ((S8 1 (0 : Int32).toNatClampNeg) + (1 : Int32)) → vp_in (0 : Int32) 56 ∧ post ((S9 1 (0 : Int32).toNatClampNeg) - (1 : Int32)) S9
set_option maxRecDepth 100000 in
set_option maxHeartbeats 4000000 in
theorem kX6_newField (l : Launch) (g : Gl)  (q : Nat → Nat) (sz : Nat) (S : Bun) (J : Lon)  (post : Int32 → Bun → Prop) (h : wX6_newField S J  post) : Met l yX6_newField wsX6_newField (rmm 0 0) (wPc g E0 ((wM g q) (S, J)) sz [.ref (q 0)]) (va_Qi (fun (r : Int32) (u : Bun × Lon) => u.2 = J ∧ post r u.1) (wB g (wM g q) (va_A ((wM g q) (S, J)) sz)) (va_A ((wM g q) (S, J)) sz)) 0 0 (va_A ((wM g q) (S, J)) sz) := by
  refine mstart (Qf := fun A => va_Qi (fun (r : Int32) (u : Bun × Lon) => u.2 = J ∧ post r u.1) (wB g (wM g q) A) A) (by decide) rfl (Nat.le_of_ble_eq_true rfl) ?_
  intro p e s m args below meth c A Q H locs ls hC hr hlocks hname hQ hA hK hE hw hl
  have hC : CallFix p m c cX6_newField 2 s args wsX6_newField RX6 := hC
  obtain ⟨hx, hb, -, hown, hts⟩ := id hC
  have hl : lv_has ls 2 [(0, .ref (q 0))] := hl
  rw [wX6_newField] at h
  have hinX6 : ∀ w ∈ wsX60, w ∈ wsX6_newField := fun w hw9 => List.mem_cons_of_mem _ (List.mem_append_right _ hw9)
  refine lv_iconst (v := (2 : Int32)) hx hb dX6_newField_0 (by decide) ?_
  refine lv_bipush (v := (6 : Int32)) hx hb dX6_newField_1 (by decide) ?_
  refine lv_aload_n hx hb dX6_newField_3 rfl (lv_at hl 0 rfl) ?_
  refine M_mg0 hC hinX6 hK hw (List.mem_of_getElem? (i := 1) rfl) dX6_newField_4 ?_
  refine lv_iconst (v := (0 : Int32)) hx hb dX6_newField_7 (by decide) ?_
  obtain ⟨hi, h⟩ := h
  refine M_ml0 hC hK hw hi dX6_newField_8 ?_
  refine lv_imul hx hb dX6_newField_9 ?_
  refine lv_iadd hx hb dX6_newField_10 ?_
  refine lv_topi (fun x1 ex1 => ?_)
  replace h := h x1 ex1
  refine lv_istore_n (lv' := [(1, .int x1), (0, .ref (q 0))]) hx hb dX6_newField_11 rfl hl (by decide) rfl (fun ls hl => ?_)
  refine lv_aload_n hx hb dX6_newField_12 rfl (lv_at hl 1 rfl) ?_
  refine M_mg0 hC hinX6 hK hw (List.mem_of_getElem? (i := 1) rfl) dX6_newField_13 ?_
  refine lv_iload_n hx hb dX6_newField_16 rfl (lv_at hl 0 rfl) ?_
  refine lv_iconst (v := (0 : Int32)) hx hb dX6_newField_17 (by decide) ?_
  refine lv_iadd hx hb dX6_newField_18 ?_
  refine lv_iconst (v := (0 : Int32)) hx hb dX6_newField_19 (by decide) ?_
  obtain ⟨hi, h⟩ := h
  refine M_ms0 hC hK hw hi dX6_newField_20 (fun S2 H locs eS2 hw => ?_)
  replace h := h S2 eS2
  refine lv_aload_n hx hb dX6_newField_21 rfl (lv_at hl 1 rfl) ?_
  refine M_mg0 hC hinX6 hK hw (List.mem_of_getElem? (i := 1) rfl) dX6_newField_22 ?_
  refine lv_iload_n hx hb dX6_newField_25 rfl (lv_at hl 0 rfl) ?_
  refine lv_iconst (v := (1 : Int32)) hx hb dX6_newField_26 (by decide) ?_
  refine lv_iadd hx hb dX6_newField_27 ?_
  refine lv_iconst (v := (0 : Int32)) hx hb dX6_newField_28 (by decide) ?_
  obtain ⟨hi, h⟩ := h
  refine M_ms0 hC hK hw hi dX6_newField_29 (fun S3 H locs eS3 hw => ?_)
  replace h := h S3 eS3
  refine lv_aload_n hx hb dX6_newField_30 rfl (lv_at hl 1 rfl) ?_
  refine M_mg0 hC hinX6 hK hw (List.mem_of_getElem? (i := 1) rfl) dX6_newField_31 ?_
  refine lv_iload_n hx hb dX6_newField_34 rfl (lv_at hl 0 rfl) ?_
  refine lv_iconst (v := (2 : Int32)) hx hb dX6_newField_35 (by decide) ?_
  refine lv_iadd hx hb dX6_newField_36 ?_
  refine lv_iconst (v := (-1 : Int32)) hx hb dX6_newField_37 (by decide) ?_
  obtain ⟨hi, h⟩ := h
  refine M_ms0 hC hK hw hi dX6_newField_38 (fun S4 H locs eS4 hw => ?_)
  replace h := h S4 eS4
  refine lv_aload_n hx hb dX6_newField_39 rfl (lv_at hl 1 rfl) ?_
  refine M_mg0 hC hinX6 hK hw (List.mem_of_getElem? (i := 1) rfl) dX6_newField_40 ?_
  refine lv_iload_n hx hb dX6_newField_43 rfl (lv_at hl 0 rfl) ?_
  refine lv_iconst (v := (3 : Int32)) hx hb dX6_newField_44 (by decide) ?_
  refine lv_iadd hx hb dX6_newField_45 ?_
  refine lv_iconst (v := (-1 : Int32)) hx hb dX6_newField_46 (by decide) ?_
  obtain ⟨hi, h⟩ := h
  refine M_ms0 hC hK hw hi dX6_newField_47 (fun S5 H locs eS5 hw => ?_)
  replace h := h S5 eS5
  refine lv_aload_n hx hb dX6_newField_48 rfl (lv_at hl 1 rfl) ?_
  refine M_mg0 hC hinX6 hK hw (List.mem_of_getElem? (i := 1) rfl) dX6_newField_49 ?_
  refine lv_iload_n hx hb dX6_newField_52 rfl (lv_at hl 0 rfl) ?_
  refine lv_iconst (v := (4 : Int32)) hx hb dX6_newField_53 (by decide) ?_
  refine lv_iadd hx hb dX6_newField_54 ?_
  refine lv_iconst (v := (0 : Int32)) hx hb dX6_newField_55 (by decide) ?_
  obtain ⟨hi, h⟩ := h
  refine M_ms0 hC hK hw hi dX6_newField_56 (fun S6 H locs eS6 hw => ?_)
  replace h := h S6 eS6
  refine lv_aload_n hx hb dX6_newField_57 rfl (lv_at hl 1 rfl) ?_
  refine M_mg0 hC hinX6 hK hw (List.mem_of_getElem? (i := 1) rfl) dX6_newField_58 ?_
  refine lv_iload_n hx hb dX6_newField_61 rfl (lv_at hl 0 rfl) ?_
  refine lv_iconst (v := (5 : Int32)) hx hb dX6_newField_62 (by decide) ?_
  refine lv_iadd hx hb dX6_newField_63 ?_
  refine lv_bipush (v := (100 : Int32)) hx hb dX6_newField_64 (by decide) ?_
  obtain ⟨hi, h⟩ := h
  refine M_ms0 hC hK hw hi dX6_newField_66 (fun S7 H locs eS7 hw => ?_)
  replace h := h S7 eS7
  refine lv_aload_n hx hb dX6_newField_67 rfl (lv_at hl 1 rfl) ?_
  refine M_mg0 hC hinX6 hK hw (List.mem_of_getElem? (i := 1) rfl) dX6_newField_68 ?_
  refine lv_bipush (v := (38 : Int32)) hx hb dX6_newField_71 (by decide) ?_
  refine lv_aload_n hx hb dX6_newField_73 rfl (lv_at hl 1 rfl) ?_
  refine M_mg0 hC hinX6 hK hw (List.mem_of_getElem? (i := 1) rfl) dX6_newField_74 ?_
  refine lv_iconst (v := (0 : Int32)) hx hb dX6_newField_77 (by decide) ?_
  obtain ⟨hi, h⟩ := h
  refine M_ml0 hC hK hw hi dX6_newField_78 ?_
  refine lv_iadd hx hb dX6_newField_79 ?_
  refine lv_iconst (v := (0 : Int32)) hx hb dX6_newField_80 (by decide) ?_
  obtain ⟨hi, h⟩ := h
  refine M_ms0 hC hK hw hi dX6_newField_81 (fun S8 H locs eS8 hw => ?_)
  replace h := h S8 eS8
  refine lv_aload_n hx hb dX6_newField_82 rfl (lv_at hl 1 rfl) ?_
  refine M_mg0 hC hinX6 hK hw (List.mem_of_getElem? (i := 1) rfl) dX6_newField_83 ?_
  refine lv_iconst (v := (0 : Int32)) hx hb dX6_newField_86 (by decide) ?_
  refine lv_dup2_11 hx hb dX6_newField_87 rfl rfl ?_
  obtain ⟨hi, h⟩ := h
  refine M_ml0 hC hK hw hi dX6_newField_88 ?_
  refine lv_iconst (v := (1 : Int32)) hx hb dX6_newField_89 (by decide) ?_
  refine lv_iadd hx hb dX6_newField_90 ?_
  obtain ⟨hi, h⟩ := h
  refine M_ms0 hC hK hw hi dX6_newField_91 (fun S9 H locs eS9 hw => ?_)
  replace h := h S9 eS9
  refine lv_aload_n hx hb dX6_newField_92 rfl (lv_at hl 1 rfl) ?_
  refine M_mg0 hC hinX6 hK hw (List.mem_of_getElem? (i := 1) rfl) dX6_newField_93 ?_
  refine lv_iconst (v := (0 : Int32)) hx hb dX6_newField_96 (by decide) ?_
  obtain ⟨hi, h⟩ := h
  refine M_ml0 hC hK hw hi dX6_newField_97 ?_
  refine lv_iconst (v := (1 : Int32)) hx hb dX6_newField_98 (by decide) ?_
  refine lv_isub hx hb dX6_newField_99 ?_
  rw [hQ]
  exact mreti (w := (wM g q)) (u := (S9, J)) hC hr hlocks hK hw ⟨rfl, h⟩ dX6_newField_100
def wX6_field (S : Bun) (J : Lon)  (post : Int32 → Bun → Prop) : Prop :=
  vp_in (0 : Int32) 56 ∧ (((S 1 (0 : Int32).toNatClampNeg) = (6 : Int32) → wX6_finds S J (-1000000002 : Int32) (fun r5 S7 => post r5 S7)) ∧ (¬ ((S 1 (0 : Int32).toNatClampNeg) = (6 : Int32)) → wX6_newField S J  (fun r1 S3 => post r1 S3)))
set_option maxRecDepth 100000 in
set_option maxHeartbeats 4000000 in
theorem kX6_field (l : Launch) (g : Gl)  (q : Nat → Nat) (sz : Nat) (S : Bun) (J : Lon)  (post : Int32 → Bun → Prop) (h : wX6_field S J  post) : Met l yX6_field wsX6_field (rmm 1 21) (wPc g E0 ((wM g q) (S, J)) sz [.ref (q 0)]) (va_Qi (fun (r : Int32) (u : Bun × Lon) => u.2 = J ∧ post r u.1) (wB g (wM g q) (va_A ((wM g q) (S, J)) sz)) (va_A ((wM g q) (S, J)) sz)) 0 0 (va_A ((wM g q) (S, J)) sz) := by
  refine mstart (Qf := fun A => va_Qi (fun (r : Int32) (u : Bun × Lon) => u.2 = J ∧ post r u.1) (wB g (wM g q) A) A) (by decide) rfl (Nat.le_of_ble_eq_true rfl) ?_
  intro p e s m args below meth c A Q H locs ls hC hr hlocks hname hQ hA hK hE hw hl
  have hC : CallFix p m c cX6_field 1 s args wsX6_field RX6 := hC
  obtain ⟨hx, hb, -, hown, hts⟩ := id hC
  have hl : lv_has ls 1 [(0, .ref (q 0))] := hl
  rw [wX6_field] at h
  have hinX6 : ∀ w ∈ wsX60, w ∈ wsX6_field := fun w hw9 => List.mem_cons_of_mem _ (List.mem_append_right _ hw9)
  refine lv_aload_n hx hb dX6_field_0 rfl (lv_at hl 0 rfl) ?_
  refine M_mg0 hC hinX6 hK hw (List.mem_of_getElem? (i := 1) rfl) dX6_field_1 ?_
  refine lv_iconst (v := (0 : Int32)) hx hb dX6_field_4 (by decide) ?_
  obtain ⟨hi, h⟩ := h
  refine M_ml0 hC hK hw hi dX6_field_5 ?_
  refine lv_bipush (v := (6 : Int32)) hx hb dX6_field_6 (by decide) ?_
  refine lv_icmp_ne (tgt := 20) hx hb dX6_field_8 (by decide) (fun c9 => ?_) (fun c9 => ?_)
  · replace h := h.2 c9
    refine lv_aload_n hx hb dX6_field_20 rfl (lv_at hl 0 rfl) ?_
    refine mcalli (w1 := (wM g q)) (va_runV (As := []) (rest := []) hC (kX6_newField l g  q H.size S J  _ h) (cwV 0 hts gX6_field_X6_newField rfl rfl rfl (by decide +kernel) ⟨Nat.le_of_ble_eq_true rfl, Nat.le_of_ble_eq_true rfl⟩) (mpreV E0_ok hK hE hA hw (Sub1.refl _) 0 rfl rfl) rfl rfl hl.1 rfl (lv_room (Nat.le_of_ble_eq_true rfl)) dX6_field_21 ⟨Nat.zero_le _, Nat.zero_le _⟩) hA hw (Sub1.refl _) (fun _ => Sub.whole rfl) (fun r1 u2 H locs h hw => ?_)
    obtain ⟨S3, J4⟩ := u2
    obtain ⟨hu, h⟩ := h
    replace hu : J = J4 := hu.symm
    subst hu
    rw [hQ]
    exact mreti (w := (wM g q)) (u := (S3, J)) hC hr hlocks hK hw ⟨rfl, h⟩ dX6_field_24
  · replace h := h.1 c9
    refine lv_aload_n hx hb dX6_field_11 rfl (lv_at hl 0 rfl) ?_
    refine lv_ldc (v := (-1000000002 : Int32)) hx hb hown (hts (.constant RX6 78 (-1000000002)) (List.mem_of_getElem? (i := 2) rfl)) dX6_field_12 ?_
    refine mcalli (w1 := (wM g q)) (va_runV (As := [.int (-1000000002 : Int32)]) (rest := []) hC (kX6_finds l g  q H.size S J (-1000000002 : Int32) _ h) (cwV 1 hts gX6_field_X6_finds rfl rfl rfl (by decide +kernel) ⟨Nat.le_of_ble_eq_true rfl, Nat.le_of_ble_eq_true rfl⟩) (mpreV E0_ok hK hE hA hw (Sub1.refl _) 0 rfl rfl) rfl rfl hl.1 rfl (lv_room (Nat.le_of_ble_eq_true rfl)) dX6_field_14 ⟨Nat.zero_le _, Nat.zero_le _⟩) hA hw (Sub1.refl _) (fun _ => Sub.whole rfl) (fun r5 u6 H locs h hw => ?_)
    obtain ⟨S7, J8⟩ := u6
    obtain ⟨hu, h⟩ := h
    replace hu : J = J8 := hu.symm
    subst hu
    refine lv_goto (tgt := 24) hx hb dX6_field_17 (by decide) ?_
    rw [hQ]
    exact mreti (w := (wM g q)) (u := (S7, J)) hC hr hlocks hK hw ⟨rfl, h⟩ dX6_field_24
def wX6_isEven  (a1 : Int32) (post : Int32 → Prop) : Prop :=
  (((((a1 / (4 : Int32)) + (a1 - a1 / (4 : Int32) * (4 : Int32))) - ((a1 / (4 : Int32)) + (a1 - a1 / (4 : Int32) * (4 : Int32))) / (2 : Int32) * (2 : Int32)) = 0 → post (1 : Int32)) ∧ (¬ ((((a1 / (4 : Int32)) + (a1 - a1 / (4 : Int32) * (4 : Int32))) - ((a1 / (4 : Int32)) + (a1 - a1 / (4 : Int32) * (4 : Int32))) / (2 : Int32) * (2 : Int32)) = 0) → post (0 : Int32)))
set_option maxRecDepth 100000 in
set_option maxHeartbeats 4000000 in
theorem kX6_isEven (l : Launch) (g : Gl)   (sz : Nat)  (a1 : Int32) (post : Int32 → Prop) (h : wX6_isEven  a1 post) : Met l yX6_isEven wsX6_isEven (rmm 0 0) (wPc g E0 (([] : va_W)) sz [.int a1]) (va_Qi (fun (r : Int32) (u : Unit) => u = () ∧ post r) (wB g (fun _ : Unit => ([] : va_W)) (va_A (([] : va_W)) sz)) (va_A (([] : va_W)) sz)) 0 0 (va_A (([] : va_W)) sz) := by
  refine mstart (Qf := fun A => va_Qi (fun (r : Int32) (u : Unit) => u = () ∧ post r) (wB g (fun _ : Unit => ([] : va_W)) A) A) (by decide) rfl (Nat.le_of_ble_eq_true rfl) ?_
  intro p e s m args below meth c A Q H locs ls hC hr hlocks hname hQ hA hK hE hw hl
  have hC : CallFix p m c cX6_isEven 1 s args wsX6_isEven RX6 := hC
  obtain ⟨hx, hb, -, hown, hts⟩ := id hC
  have hl : lv_has ls 1 [(0, .int a1)] := hl
  rw [wX6_isEven] at h
  refine lv_iload_n hx hb dX6_isEven_0 rfl (lv_at hl 0 rfl) ?_
  refine lv_iconst (v := (4 : Int32)) hx hb dX6_isEven_1 (by decide) ?_
  refine lv_idiv hx hb dX6_isEven_2 (by decide) ?_
  refine lv_iload_n hx hb dX6_isEven_3 rfl (lv_at hl 0 rfl) ?_
  refine lv_iconst (v := (4 : Int32)) hx hb dX6_isEven_4 (by decide) ?_
  refine lv_irem hx hb dX6_isEven_5 (by decide) ?_
  refine lv_iadd hx hb dX6_isEven_6 ?_
  refine lv_iconst (v := (2 : Int32)) hx hb dX6_isEven_7 (by decide) ?_
  refine lv_irem hx hb dX6_isEven_8 (by decide) ?_
  refine lv_if_ne (tgt := 16) hx hb dX6_isEven_9 (by decide) (fun c1 => ?_) (fun c1 => ?_)
  · replace h := h.2 c1
    refine lv_iconst (v := (0 : Int32)) hx hb dX6_isEven_16 (by decide) ?_
    rw [hQ]
    exact mretz (w := (fun _ : Unit => ([] : va_W))) (u := ()) hC hr hlocks hK hw (Or.inl rfl) ⟨rfl, h⟩ dX6_isEven_17
  · replace h := h.1 c1
    refine lv_iconst (v := (1 : Int32)) hx hb dX6_isEven_12 (by decide) ?_
    refine lv_goto (tgt := 17) hx hb dX6_isEven_13 (by decide) ?_
    rw [hQ]
    exact mretz (w := (fun _ : Unit => ([] : va_W))) (u := ()) hC hr hlocks hK hw (Or.inr rfl) ⟨rfl, h⟩ dX6_isEven_17
def wX6_colours (S : Bun) (J : Lon) (a1 : Int32) (post : Int32 → Prop) : Prop :=
  wX6_earth S J a1 (fun r1 => wloop (σ := Int32 × Int32) (fun K5 z => match z with | (x3, x4) => (((16 : Int32) ≤ x4 → post x3) ∧ (¬ ((16 : Int32) ≤ x4) → wX6_has r1 x4 (fun r11 => wjoin (σ := Int32) (fun y13 => ∀ x17 : Int32, x17 = x3 + y13 → ∀ x18 : Int32, x18 = x4 + (1 : Int32) → K5 (x17, x18)) (fun J14 => ((r11 = 0 → J14 (0 : Int32)) ∧ (¬ (r11 = 0) → wX6_isEven x4 (fun r20 => ((r20 = 0 → J14 (-1 : Int32)) ∧ (¬ (r20 = 0) → J14 (1 : Int32))))))))))) ((0 : Int32), (0 : Int32)))
set_option maxRecDepth 100000 in
set_option maxHeartbeats 4000000 in
theorem kX6_colours (l : Launch) (g : Gl)  (q : Nat → Nat) (sz : Nat) (S : Bun) (J : Lon) (a1 : Int32) (post : Int32 → Prop) (h : wX6_colours S J a1 post) : Met l yX6_colours wsX6_colours (rmm 2 43) (wPc g E0 ((wM g q) (S, J)) sz [.ref (q 0), .int a1]) (va_Qi (fun (r : Int32) (u : Bun × Lon) => u = (S, J) ∧ post r) (wB g (wM g q) (va_A ((wM g q) (S, J)) sz)) (va_A ((wM g q) (S, J)) sz)) 0 0 (va_A ((wM g q) (S, J)) sz) := by
  refine mstart (Qf := fun A => va_Qi (fun (r : Int32) (u : Bun × Lon) => u = (S, J) ∧ post r) (wB g (wM g q) A) A) (by decide) rfl (Nat.le_of_ble_eq_true rfl) ?_
  intro p e s m args below meth c A Q H locs ls hC hr hlocks hname hQ hA hK hE hw hl
  have hC : CallFix p m c cX6_colours 5 s args wsX6_colours RX6 := hC
  obtain ⟨hx, hb, -, hown, hts⟩ := id hC
  have hl : lv_has ls 5 [(0, .ref (q 0)), (1, .int a1)] := hl
  rw [wX6_colours] at h
  refine lv_iconst (v := (0 : Int32)) hx hb dX6_colours_0 (by decide) ?_
  refine lv_istore_n (lv' := [(2, .int (0 : Int32)), (0, .ref (q 0)), (1, .int a1)]) hx hb dX6_colours_1 rfl hl (by decide) rfl (fun ls hl => ?_)
  refine lv_aload_n hx hb dX6_colours_2 rfl (lv_at hl 1 rfl) ?_
  refine lv_iload_n hx hb dX6_colours_3 rfl (lv_at hl 2 rfl) ?_
  refine mcalli (w1 := (wM g q)) (va_runV (As := [.int a1]) (rest := []) hC (kX6_earth l g  q H.size S J a1 _ h) (cwV 1 hts gX6_colours_X6_earth rfl rfl rfl (by decide +kernel) ⟨Nat.le_of_ble_eq_true rfl, Nat.le_of_ble_eq_true rfl⟩) (mpreV E0_ok hK hE hA hw (Sub1.refl _) 0 rfl rfl) rfl rfl hl.1 rfl (lv_room (Nat.le_of_ble_eq_true rfl)) dX6_colours_4 ⟨Nat.zero_le _, Nat.zero_le _⟩) hA hw (Sub1.refl _) (fun _ => Sub.whole rfl) (fun r1 u2 H locs h hw => ?_)
  obtain ⟨hu, h⟩ := h
  replace hu := hu.symm
  subst hu
  refine lv_istore_n (lv' := [(3, .int r1), (2, .int (0 : Int32)), (0, .ref (q 0)), (1, .int a1)]) hx hb dX6_colours_7 rfl hl (by decide) rfl (fun ls hl => ?_)
  refine lv_iconst (v := (0 : Int32)) hx hb dX6_colours_8 (by decide) ?_
  refine lv_istore (lv' := [(4, .int (0 : Int32)), (3, .int r1), (2, .int (0 : Int32)), (0, .ref (q 0)), (1, .int a1)]) hx hb dX6_colours_9 hl (by decide) rfl (fun ls hl => ?_)
  refine h (fun z => match z with | (x3, x4) => ∀ (H : Heap) (locs : List Loc) (ls : Array Slot), Wd g.1 A s.heap ((wM g q) (S, J)) H locs → lv_has ls 5 [(2, .int x3), (3, .int r1), (4, .int x4)] → W p l e (rmm 2 43) s m args below meth c H locs 0 0 Q (F0 m 11 ls [])) ?_ _ _ _ hw (lv_sub hl [2, 1, 0] rfl)
  clear h hw hl
  rintro ⟨x3, x4⟩ h H locs ls hw hl
  refine lv_iload hx hb dX6_colours_11 (lv_at hl 2 rfl) ?_
  refine lv_bipush (v := (16 : Int32)) hx hb dX6_colours_13 (by decide) ?_
  refine lv_icmp_ge (tgt := 53) hx hb dX6_colours_15 (by decide) (fun c24 => ?_) (fun c24 => ?_)
  · replace h := h.1 c24
    refine lv_iload_n hx hb dX6_colours_53 rfl (lv_at hl 0 rfl) ?_
    rw [hQ]
    exact mreti (w := (wM g q)) (u := (S, J)) hC hr hlocks hK hw ⟨rfl, h⟩ dX6_colours_54
  · replace h := h.2 c24
    refine lv_iload_n hx hb dX6_colours_18 rfl (lv_at hl 0 rfl) ?_
    refine lv_iload_n hx hb dX6_colours_19 rfl (lv_at hl 1 rfl) ?_
    refine lv_iload hx hb dX6_colours_20 (lv_at hl 2 rfl) ?_
    refine mcalli (w1 := (fun _ => (wM g q) (S, J))) (wc := fun _ : Unit => ([] : va_W)) (u := ()) (va_runS (As := [.int r1, .int x4]) (rest := [.int x3]) hC (kX6_has l g  H.size r1 x4 _ h) (va_cwS 2 hts gX6_colours_X6_has rfl rfl rfl (by decide +kernel) ⟨Nat.le_of_ble_eq_true rfl, Nat.le_of_ble_eq_true rfl⟩) (mpre E0_ok hK hE hA hw (Sub1.nil _)) rfl rfl hl.1 rfl (lv_room (Nat.le_of_ble_eq_true rfl)) dX6_colours_22 ⟨Nat.zero_le _, Nat.zero_le _⟩) hA hw (Sub1.nil _) (fun _ => Sub.nil _) (fun r11 u12 H locs h hw => ?_)
    obtain ⟨_, h⟩ := h
    obtain ⟨J14, hJ15, h⟩ := h
    have join16 : ∀ (y13 : Int32) (H : Heap) (locs : List Loc) (ls : Array Slot), J14 y13 → Wd g.1 A s.heap ((wM g q) (S, J)) H locs → lv_has ls 5 [(3, .int r1), (4, .int x4)] → W p l e (rmm 2 43) s m args below meth c H locs 0 0 Q (F0 m 45 ls [.int y13, .int x3]) := by
      intro y13 H locs ls h hw hl
      replace h := hJ15 y13 h
      refine lv_iadd hx hb dX6_colours_45 ?_
      refine lv_topi (fun x17 ex17 => ?_)
      replace h := h x17 ex17
      refine lv_istore_n (lv' := [(2, .int x17), (3, .int r1), (4, .int x4)]) hx hb dX6_colours_46 rfl hl (by decide) rfl (fun ls hl => ?_)
      obtain ⟨x18, ex18⟩ : ∃ y : Int32, y = x4 + (1 : Int32) := ⟨_, rfl⟩
      refine lv_iinc (v := x18) (lv' := [(4, .int x18), (2, .int x17), (3, .int r1)]) hx hb dX6_colours_47 hl (k := 2) rfl (by rw [ex18]; rfl) (by decide) rfl (fun ls hl => ?_)
      replace h := h x18 ex18
      refine lv_goto (tgt := 11) hx hb dX6_colours_50 (by decide) ?_
      exact h _ _ _ hw (lv_sub hl [1, 2, 0] rfl)
    refine lv_if_ne (tgt := 32) hx hb dX6_colours_25 (by decide) (fun c23 => ?_) (fun c23 => ?_)
    · replace h := h.2 c23
      refine lv_iload hx hb dX6_colours_32 (lv_at hl 2 rfl) ?_
      refine mcalli (w1 := (fun _ => (wM g q) (S, J))) (wc := fun _ : Unit => ([] : va_W)) (u := ()) (va_runS (As := [.int x4]) (rest := [.int x3]) hC (kX6_isEven l g  H.size x4 _ h) (va_cwS 1 hts gX6_colours_X6_isEven rfl rfl rfl (by decide +kernel) ⟨Nat.le_of_ble_eq_true rfl, Nat.le_of_ble_eq_true rfl⟩) (mpre E0_ok hK hE hA hw (Sub1.nil _)) rfl rfl hl.1 rfl (lv_room (Nat.le_of_ble_eq_true rfl)) dX6_colours_34 ⟨Nat.zero_le _, Nat.zero_le _⟩) hA hw (Sub1.nil _) (fun _ => Sub.nil _) (fun r20 u21 H locs h hw => ?_)
      obtain ⟨_, h⟩ := h
      refine lv_if_eq (tgt := 44) hx hb dX6_colours_37 (by decide) (fun c22 => ?_) (fun c22 => ?_)
      · replace h := h.1 c22
        refine lv_iconst (v := (-1 : Int32)) hx hb dX6_colours_44 (by decide) ?_
        exact join16 (-1 : Int32) _ _ _ h hw (lv_sub hl [1, 2] rfl)
      · replace h := h.2 c22
        refine lv_iconst (v := (1 : Int32)) hx hb dX6_colours_40 (by decide) ?_
        refine lv_goto (tgt := 45) hx hb dX6_colours_41 (by decide) ?_
        exact join16 (1 : Int32) _ _ _ h hw (lv_sub hl [1, 2] rfl)
    · replace h := h.1 c23
      refine lv_iconst (v := (0 : Int32)) hx hb dX6_colours_28 (by decide) ?_
      refine lv_goto (tgt := 45) hx hb dX6_colours_29 (by decide) ?_
      exact join16 (0 : Int32) _ _ _ h hw (lv_sub hl [1, 2] rfl)
def wX6_of (S : Bun) (J : Lon) (a1 : Int32) (a2 : Int32) (post : Int32 → Bun → Prop) : Prop :=
  wX6_isField S J a1 (fun r1 => wjoin (σ := Unit) (fun _ => wX6_finds S J (-1000000001 : Int32) (fun r6 S8 => post r6 S8)) (fun J3 => ((r1 = 0 → J3 ()) ∧ (¬ (r1 = 0) → wX6_in a2.toInt64 (0 : Int64) (7 : Int64) (fun r10 => ((r10 = 0 → J3 ()) ∧ (¬ (r10 = 0) → (((6 : Int32) ≤ a2 → ((a2 = (6 : Int32) → wX6_earth S J a1 (fun r14 => post r14 S)) ∧ (¬ (a2 = (6 : Int32)) → wX6_colours S J a1 (fun r12 => post r12 S)))) ∧ (¬ ((6 : Int32) ≤ a2) → wX6_its S J a1 a2 (fun r17 => post r17 S))))))))))
set_option maxRecDepth 100000 in
set_option maxHeartbeats 4000000 in
theorem kX6_of (l : Launch) (g : Gl)  (q : Nat → Nat) (sz : Nat) (S : Bun) (J : Lon) (a1 : Int32) (a2 : Int32) (post : Int32 → Bun → Prop) (h : wX6_of S J a1 a2 post) : Met l yX6_of wsX6_of (rmm 3 67) (wPc g E0 ((wM g q) (S, J)) sz [.ref (q 0), .int a1, .int a2]) (va_Qi (fun (r : Int32) (u : Bun × Lon) => u.2 = J ∧ post r u.1) (wB g (wM g q) (va_A ((wM g q) (S, J)) sz)) (va_A ((wM g q) (S, J)) sz)) 0 0 (va_A ((wM g q) (S, J)) sz) := by
  refine mstart (Qf := fun A => va_Qi (fun (r : Int32) (u : Bun × Lon) => u.2 = J ∧ post r u.1) (wB g (wM g q) A) A) (by decide) rfl (Nat.le_of_ble_eq_true rfl) ?_
  intro p e s m args below meth c A Q H locs ls hC hr hlocks hname hQ hA hK hE hw hl
  have hC : CallFix p m c cX6_of 3 s args wsX6_of RX6 := hC
  obtain ⟨hx, hb, -, hown, hts⟩ := id hC
  have hl : lv_has ls 3 [(0, .ref (q 0)), (1, .int a1), (2, .int a2)] := hl
  rw [wX6_of] at h
  refine lv_aload_n hx hb dX6_of_0 rfl (lv_at hl 0 rfl) ?_
  refine lv_iload_n hx hb dX6_of_1 rfl (lv_at hl 1 rfl) ?_
  refine mcalli (w1 := (wM g q)) (va_runV (As := [.int a1]) (rest := []) hC (kX6_isField l g  q H.size S J a1 _ h) (cwV 1 hts gX6_of_X6_isField rfl rfl rfl (by decide +kernel) ⟨Nat.le_of_ble_eq_true rfl, Nat.le_of_ble_eq_true rfl⟩) (mpreV E0_ok hK hE hA hw (Sub1.refl _) 0 rfl rfl) rfl rfl hl.1 rfl (lv_room (Nat.le_of_ble_eq_true rfl)) dX6_of_2 ⟨Nat.zero_le _, Nat.zero_le _⟩) hA hw (Sub1.refl _) (fun _ => Sub.whole rfl) (fun r1 u2 H locs h hw => ?_)
  obtain ⟨hu, h⟩ := h
  replace hu := hu.symm
  subst hu
  obtain ⟨J3, hJ4, h⟩ := h
  have join5 : ∀  (H : Heap) (locs : List Loc) (ls : Array Slot), J3 () → Wd g.1 A s.heap ((wM g q) (S, J)) H locs → lv_has ls 3 [(0, .ref (q 0))] → W p l e (rmm 3 67) s m args below meth c H locs 0 0 Q (F0 m 20 ls []) := by
    intro  H locs ls h hw hl
    replace h := hJ4 () h
    refine lv_aload_n hx hb dX6_of_20 rfl (lv_at hl 0 rfl) ?_
    refine lv_ldc (v := (-1000000001 : Int32)) hx hb hown (hts (.constant RX6 68 (-1000000001)) (List.mem_of_getElem? (i := 2) rfl)) dX6_of_21 ?_
    refine mcalli (w1 := (wM g q)) (va_runV (As := [.int (-1000000001 : Int32)]) (rest := []) hC (kX6_finds l g  q H.size S J (-1000000001 : Int32) _ h) (cwV 1 hts gX6_of_X6_finds rfl rfl rfl (by decide +kernel) ⟨Nat.le_of_ble_eq_true rfl, Nat.le_of_ble_eq_true rfl⟩) (mpreV E0_ok hK hE hA hw (Sub1.refl _) 0 rfl rfl) rfl rfl hl.1 rfl (lv_room (Nat.le_of_ble_eq_true rfl)) dX6_of_23 ⟨Nat.zero_le _, Nat.zero_le _⟩) hA hw (Sub1.refl _) (fun _ => Sub.whole rfl) (fun r6 u7 H locs h hw => ?_)
    obtain ⟨S8, J9⟩ := u7
    obtain ⟨hu, h⟩ := h
    replace hu : J = J9 := hu.symm
    subst hu
    rw [hQ]
    exact mreti (w := (wM g q)) (u := (S8, J)) hC hr hlocks hK hw ⟨rfl, h⟩ dX6_of_26
  refine lv_if_eq (tgt := 20) hx hb dX6_of_5 (by decide) (fun c21 => ?_) (fun c21 => ?_)
  · replace h := h.1 c21
    exact join5  _ _ _ h hw (lv_sub hl [0] rfl)
  · replace h := h.2 c21
    refine lv_iload_n hx hb dX6_of_8 rfl (lv_at hl 2 rfl) ?_
    refine lv_i2l (v := a2.toInt64) hx hb dX6_of_9 rfl ?_
    refine lv_lconst (v := (0 : Int64)) hx hb dX6_of_10 (by decide) ?_
    refine lv_ldc2 (v := (7 : Int64)) hx hb hown (hts (.constantLong RX6 101 (7)) (List.mem_of_getElem? (i := 1) rfl)) dX6_of_11 ?_
    refine mcalli (w1 := (fun _ => (wM g q) (S, J))) (wc := fun _ : Unit => ([] : va_W)) (u := ()) (va_runS (As := [.long a2.toInt64, .long (0 : Int64), .long (7 : Int64)]) (rest := []) hC (kX6_in l g  H.size a2.toInt64 (0 : Int64) (7 : Int64) _ h) (va_cwS 3 hts gX6_of_X6_in rfl rfl rfl (by decide +kernel) ⟨Nat.le_of_ble_eq_true rfl, Nat.le_of_ble_eq_true rfl⟩) (mpre E0_ok hK hE hA hw (Sub1.nil _)) rfl rfl hl.1 rfl (lv_room (Nat.le_of_ble_eq_true rfl)) dX6_of_14 ⟨Nat.zero_le _, Nat.zero_le _⟩) hA hw (Sub1.nil _) (fun _ => Sub.nil _) (fun r10 u11 H locs h hw => ?_)
    obtain ⟨_, h⟩ := h
    refine lv_if_ne (tgt := 27) hx hb dX6_of_17 (by decide) (fun c20 => ?_) (fun c20 => ?_)
    · replace h := h.2 c20
      refine lv_iload_n hx hb dX6_of_27 rfl (lv_at hl 2 rfl) ?_
      refine lv_bipush (v := (6 : Int32)) hx hb dX6_of_28 (by decide) ?_
      refine lv_icmp_ge (tgt := 42) hx hb dX6_of_30 (by decide) (fun c19 => ?_) (fun c19 => ?_)
      · replace h := h.1 c19
        refine lv_iload_n hx hb dX6_of_42 rfl (lv_at hl 2 rfl) ?_
        refine lv_bipush (v := (6 : Int32)) hx hb dX6_of_43 (by decide) ?_
        refine lv_icmp_ne (tgt := 56) hx hb dX6_of_45 (by decide) (fun c16 => ?_) (fun c16 => ?_)
        · replace h := h.2 c16
          refine lv_aload_n hx hb dX6_of_56 rfl (lv_at hl 0 rfl) ?_
          refine lv_iload_n hx hb dX6_of_57 rfl (lv_at hl 1 rfl) ?_
          refine mcalli (w1 := (wM g q)) (va_runV (As := [.int a1]) (rest := []) hC (kX6_colours l g  q H.size S J a1 _ h) (cwV 1 hts gX6_of_X6_colours rfl rfl rfl (by decide +kernel) ⟨Nat.le_of_ble_eq_true rfl, Nat.le_of_ble_eq_true rfl⟩) (mpreV E0_ok hK hE hA hw (Sub1.refl _) 0 rfl rfl) rfl rfl hl.1 rfl (lv_room (Nat.le_of_ble_eq_true rfl)) dX6_of_58 ⟨Nat.zero_le _, Nat.zero_le _⟩) hA hw (Sub1.refl _) (fun _ => Sub.whole rfl) (fun r12 u13 H locs h hw => ?_)
          obtain ⟨hu, h⟩ := h
          replace hu := hu.symm
          subst hu
          rw [hQ]
          exact mreti (w := (wM g q)) (u := (S, J)) hC hr hlocks hK hw ⟨rfl, h⟩ dX6_of_61
        · replace h := h.1 c16
          refine lv_aload_n hx hb dX6_of_48 rfl (lv_at hl 0 rfl) ?_
          refine lv_iload_n hx hb dX6_of_49 rfl (lv_at hl 1 rfl) ?_
          refine mcalli (w1 := (wM g q)) (va_runV (As := [.int a1]) (rest := []) hC (kX6_earth l g  q H.size S J a1 _ h) (cwV 1 hts gX6_of_X6_earth rfl rfl rfl (by decide +kernel) ⟨Nat.le_of_ble_eq_true rfl, Nat.le_of_ble_eq_true rfl⟩) (mpreV E0_ok hK hE hA hw (Sub1.refl _) 0 rfl rfl) rfl rfl hl.1 rfl (lv_room (Nat.le_of_ble_eq_true rfl)) dX6_of_50 ⟨Nat.zero_le _, Nat.zero_le _⟩) hA hw (Sub1.refl _) (fun _ => Sub.whole rfl) (fun r14 u15 H locs h hw => ?_)
          obtain ⟨hu, h⟩ := h
          replace hu := hu.symm
          subst hu
          refine lv_goto (tgt := 61) hx hb dX6_of_53 (by decide) ?_
          rw [hQ]
          exact mreti (w := (wM g q)) (u := (S, J)) hC hr hlocks hK hw ⟨rfl, h⟩ dX6_of_61
      · replace h := h.2 c19
        refine lv_aload_n hx hb dX6_of_33 rfl (lv_at hl 0 rfl) ?_
        refine lv_iload_n hx hb dX6_of_34 rfl (lv_at hl 1 rfl) ?_
        refine lv_iload_n hx hb dX6_of_35 rfl (lv_at hl 2 rfl) ?_
        refine mcalli (w1 := (wM g q)) (va_runV (As := [.int a1, .int a2]) (rest := []) hC (kX6_its l g  q H.size S J a1 a2 _ h) (cwV 2 hts gX6_of_X6_its rfl rfl rfl (by decide +kernel) ⟨Nat.le_of_ble_eq_true rfl, Nat.le_of_ble_eq_true rfl⟩) (mpreV E0_ok hK hE hA hw (Sub1.refl _) 0 rfl rfl) rfl rfl hl.1 rfl (lv_room (Nat.le_of_ble_eq_true rfl)) dX6_of_36 ⟨Nat.zero_le _, Nat.zero_le _⟩) hA hw (Sub1.refl _) (fun _ => Sub.whole rfl) (fun r17 u18 H locs h hw => ?_)
        obtain ⟨hu, h⟩ := h
        replace hu := hu.symm
        subst hu
        refine lv_goto (tgt := 61) hx hb dX6_of_39 (by decide) ?_
        rw [hQ]
        exact mreti (w := (wM g q)) (u := (S, J)) hC hr hlocks hK hw ⟨rfl, h⟩ dX6_of_61
    · replace h := h.1 c20
      exact join5  _ _ _ h hw (lv_sub hl [0] rfl)
def wX6_leastOf  (a1 : Int32) (post : Int32 → Prop) : Prop :=
  ((a1 = (2 : Int32) → post (-1 : Int32)) ∧ (¬ (a1 = (2 : Int32)) → ((a1 = (3 : Int32) → post (-1 : Int32)) ∧ (¬ (a1 = (3 : Int32)) → post (0 : Int32)))))
set_option maxRecDepth 100000 in
set_option maxHeartbeats 4000000 in
theorem kX6_leastOf (l : Launch) (g : Gl)   (sz : Nat)  (a1 : Int32) (post : Int32 → Prop) (h : wX6_leastOf  a1 post) : Met l yX6_leastOf wsX6_leastOf (rmm 0 0) (wPc g E0 (([] : va_W)) sz [.int a1]) (va_Qi (fun (r : Int32) (u : Unit) => u = () ∧ post r) (wB g (fun _ : Unit => ([] : va_W)) (va_A (([] : va_W)) sz)) (va_A (([] : va_W)) sz)) 0 0 (va_A (([] : va_W)) sz) := by
  refine mstart (Qf := fun A => va_Qi (fun (r : Int32) (u : Unit) => u = () ∧ post r) (wB g (fun _ : Unit => ([] : va_W)) A) A) (by decide) rfl (Nat.le_of_ble_eq_true rfl) ?_
  intro p e s m args below meth c A Q H locs ls hC hr hlocks hname hQ hA hK hE hw hl
  have hC : CallFix p m c cX6_leastOf 1 s args wsX6_leastOf RX6 := hC
  obtain ⟨hx, hb, -, hown, hts⟩ := id hC
  have hl : lv_has ls 1 [(0, .int a1)] := hl
  rw [wX6_leastOf] at h
  refine lv_iload_n hx hb dX6_leastOf_0 rfl (lv_at hl 0 rfl) ?_
  refine lv_iconst (v := (2 : Int32)) hx hb dX6_leastOf_1 (by decide) ?_
  refine lv_icmp_eq (tgt := 10) hx hb dX6_leastOf_2 (by decide) (fun c2 => ?_) (fun c2 => ?_)
  · replace h := h.1 c2
    refine lv_iconst (v := (-1 : Int32)) hx hb dX6_leastOf_10 (by decide) ?_
    refine lv_goto (tgt := 15) hx hb dX6_leastOf_11 (by decide) ?_
    rw [hQ]
    exact mreti (w := (fun _ : Unit => ([] : va_W))) (u := ()) hC hr hlocks hK hw ⟨rfl, h⟩ dX6_leastOf_15
  · replace h := h.2 c2
    refine lv_iload_n hx hb dX6_leastOf_5 rfl (lv_at hl 0 rfl) ?_
    refine lv_iconst (v := (3 : Int32)) hx hb dX6_leastOf_6 (by decide) ?_
    refine lv_icmp_ne (tgt := 14) hx hb dX6_leastOf_7 (by decide) (fun c1 => ?_) (fun c1 => ?_)
    · replace h := h.2 c1
      refine lv_iconst (v := (0 : Int32)) hx hb dX6_leastOf_14 (by decide) ?_
      rw [hQ]
      exact mreti (w := (fun _ : Unit => ([] : va_W))) (u := ()) hC hr hlocks hK hw ⟨rfl, h⟩ dX6_leastOf_15
    · replace h := h.1 c1
      refine lv_iconst (v := (-1 : Int32)) hx hb dX6_leastOf_10 (by decide) ?_
      refine lv_goto (tgt := 15) hx hb dX6_leastOf_11 (by decide) ?_
      rw [hQ]
      exact mreti (w := (fun _ : Unit => ([] : va_W))) (u := ()) hC hr hlocks hK hw ⟨rfl, h⟩ dX6_leastOf_15
def wX6_mostOf  (a1 : Int32) (post : Int32 → Prop) : Prop :=
  (((2 : Int32) ≤ a1 → (((4 : Int32) ≤ a1 → ((a1 = (4 : Int32) → post (99 : Int32)) ∧ (¬ (a1 = (4 : Int32)) → post (999 : Int32)))) ∧ (¬ ((4 : Int32) ≤ a1) → post (15 : Int32)))) ∧ (¬ ((2 : Int32) ≤ a1) → post (65535 : Int32)))
set_option maxRecDepth 100000 in
set_option maxHeartbeats 4000000 in
theorem kX6_mostOf (l : Launch) (g : Gl)   (sz : Nat)  (a1 : Int32) (post : Int32 → Prop) (h : wX6_mostOf  a1 post) : Met l yX6_mostOf wsX6_mostOf (rmm 0 0) (wPc g E0 (([] : va_W)) sz [.int a1]) (va_Qi (fun (r : Int32) (u : Unit) => u = () ∧ post r) (wB g (fun _ : Unit => ([] : va_W)) (va_A (([] : va_W)) sz)) (va_A (([] : va_W)) sz)) 0 0 (va_A (([] : va_W)) sz) := by
  refine mstart (Qf := fun A => va_Qi (fun (r : Int32) (u : Unit) => u = () ∧ post r) (wB g (fun _ : Unit => ([] : va_W)) A) A) (by decide) rfl (Nat.le_of_ble_eq_true rfl) ?_
  intro p e s m args below meth c A Q H locs ls hC hr hlocks hname hQ hA hK hE hw hl
  have hC : CallFix p m c cX6_mostOf 1 s args wsX6_mostOf RX6 := hC
  obtain ⟨hx, hb, -, hown, hts⟩ := id hC
  have hl : lv_has ls 1 [(0, .int a1)] := hl
  rw [wX6_mostOf] at h
  refine lv_iload_n hx hb dX6_mostOf_0 rfl (lv_at hl 0 rfl) ?_
  refine lv_iconst (v := (2 : Int32)) hx hb dX6_mostOf_1 (by decide) ?_
  refine lv_icmp_ge (tgt := 10) hx hb dX6_mostOf_2 (by decide) (fun c3 => ?_) (fun c3 => ?_)
  · replace h := h.1 c3
    refine lv_iload_n hx hb dX6_mostOf_10 rfl (lv_at hl 0 rfl) ?_
    refine lv_iconst (v := (4 : Int32)) hx hb dX6_mostOf_11 (by decide) ?_
    refine lv_icmp_ge (tgt := 20) hx hb dX6_mostOf_12 (by decide) (fun c2 => ?_) (fun c2 => ?_)
    · replace h := h.1 c2
      refine lv_iload_n hx hb dX6_mostOf_20 rfl (lv_at hl 0 rfl) ?_
      refine lv_iconst (v := (4 : Int32)) hx hb dX6_mostOf_21 (by decide) ?_
      refine lv_icmp_ne (tgt := 30) hx hb dX6_mostOf_22 (by decide) (fun c1 => ?_) (fun c1 => ?_)
      · replace h := h.2 c1
        refine lv_sipush (v := (999 : Int32)) hx hb dX6_mostOf_30 (by decide) ?_
        rw [hQ]
        exact mreti (w := (fun _ : Unit => ([] : va_W))) (u := ()) hC hr hlocks hK hw ⟨rfl, h⟩ dX6_mostOf_33
      · replace h := h.1 c1
        refine lv_bipush (v := (99 : Int32)) hx hb dX6_mostOf_25 (by decide) ?_
        refine lv_goto (tgt := 33) hx hb dX6_mostOf_27 (by decide) ?_
        rw [hQ]
        exact mreti (w := (fun _ : Unit => ([] : va_W))) (u := ()) hC hr hlocks hK hw ⟨rfl, h⟩ dX6_mostOf_33
    · replace h := h.2 c2
      refine lv_bipush (v := (15 : Int32)) hx hb dX6_mostOf_15 (by decide) ?_
      refine lv_goto (tgt := 33) hx hb dX6_mostOf_17 (by decide) ?_
      rw [hQ]
      exact mreti (w := (fun _ : Unit => ([] : va_W))) (u := ()) hC hr hlocks hK hw ⟨rfl, h⟩ dX6_mostOf_33
  · replace h := h.2 c3
    refine lv_ldc (v := (65535 : Int32)) hx hb hown (hts (.constant RX6 73 (65535)) (List.mem_of_getElem? (i := 1) rfl)) dX6_mostOf_5 ?_
    refine lv_goto (tgt := 33) hx hb dX6_mostOf_7 (by decide) ?_
    rw [hQ]
    exact mreti (w := (fun _ : Unit => ([] : va_W))) (u := ()) hC hr hlocks hK hw ⟨rfl, h⟩ dX6_mostOf_33
def wX6_set (S : Bun) (J : Lon) (a1 : Int32) (a2 : Int32) (a3 : Int32) (post : Int32 → Bun → Prop) : Prop :=
  wX6_isField S J a1 (fun r1 => wjoin (σ := Unit) (fun _ => wX6_finds S J (-1000000001 : Int32) (fun r6 S8 => post r6 S8)) (fun J3 => ((r1 = 0 → J3 ()) ∧ (¬ (r1 = 0) → wX6_in a2.toInt64 (0 : Int64) (5 : Int64) (fun r10 => ((r10 = 0 → J3 ()) ∧ (¬ (r10 = 0) → wX6_leastOf a2 (fun r12 => wX6_mostOf a2 (fun r14 => wX6_in a3.toInt64 r12.toInt64 r14.toInt64 (fun r16 => ((r16 = 0 → J3 ()) ∧ (¬ (r16 = 0) → wX6_its S J a1 a2 (fun r18 => vp_in (((2 : Int32) + ((6 : Int32) * a1)) + a2) 56 ∧ ∀ S20 : Bun, S20 = up S 1 (((2 : Int32) + ((6 : Int32) * a1)) + a2).toNatClampNeg a3 → post r18 S20)))))))))))))
set_option maxRecDepth 100000 in
set_option maxHeartbeats 4000000 in
theorem kX6_set (l : Launch) (g : Gl)  (q : Nat → Nat) (sz : Nat) (S : Bun) (J : Lon) (a1 : Int32) (a2 : Int32) (a3 : Int32) (post : Int32 → Bun → Prop) (h : wX6_set S J a1 a2 a3 post) : Met l yX6_set wsX6_set (rmm 2 46) (wPc g E0 ((wM g q) (S, J)) sz [.ref (q 0), .int a1, .int a2, .int a3]) (va_Qi (fun (r : Int32) (u : Bun × Lon) => u.2 = J ∧ post r u.1) (wB g (wM g q) (va_A ((wM g q) (S, J)) sz)) (va_A ((wM g q) (S, J)) sz)) 0 0 (va_A ((wM g q) (S, J)) sz) := by
  refine mstart (Qf := fun A => va_Qi (fun (r : Int32) (u : Bun × Lon) => u.2 = J ∧ post r u.1) (wB g (wM g q) A) A) (by decide) rfl (Nat.le_of_ble_eq_true rfl) ?_
  intro p e s m args below meth c A Q H locs ls hC hr hlocks hname hQ hA hK hE hw hl
  have hC : CallFix p m c cX6_set 5 s args wsX6_set RX6 := hC
  obtain ⟨hx, hb, -, hown, hts⟩ := id hC
  have hl : lv_has ls 5 [(0, .ref (q 0)), (1, .int a1), (2, .int a2), (3, .int a3)] := hl
  rw [wX6_set] at h
  have hinX6 : ∀ w ∈ wsX60, w ∈ wsX6_set := fun w hw9 => List.mem_cons_of_mem _ (List.mem_append_right _ hw9)
  refine lv_aload_n hx hb dX6_set_0 rfl (lv_at hl 0 rfl) ?_
  refine lv_iload_n hx hb dX6_set_1 rfl (lv_at hl 1 rfl) ?_
  refine mcalli (w1 := (wM g q)) (va_runV (As := [.int a1]) (rest := []) hC (kX6_isField l g  q H.size S J a1 _ h) (cwV 1 hts gX6_set_X6_isField rfl rfl rfl (by decide +kernel) ⟨Nat.le_of_ble_eq_true rfl, Nat.le_of_ble_eq_true rfl⟩) (mpreV E0_ok hK hE hA hw (Sub1.refl _) 0 rfl rfl) rfl rfl hl.1 rfl (lv_room (Nat.le_of_ble_eq_true rfl)) dX6_set_2 ⟨Nat.zero_le _, Nat.zero_le _⟩) hA hw (Sub1.refl _) (fun _ => Sub.whole rfl) (fun r1 u2 H locs h hw => ?_)
  obtain ⟨hu, h⟩ := h
  replace hu := hu.symm
  subst hu
  obtain ⟨J3, hJ4, h⟩ := h
  have join5 : ∀  (H : Heap) (locs : List Loc) (ls : Array Slot), J3 () → Wd g.1 A s.heap ((wM g q) (S, J)) H locs → lv_has ls 5 [(0, .ref (q 0))] → W p l e (rmm 2 46) s m args below meth c H locs 0 0 Q (F0 m 38 ls []) := by
    intro  H locs ls h hw hl
    replace h := hJ4 () h
    refine lv_aload_n hx hb dX6_set_38 rfl (lv_at hl 0 rfl) ?_
    refine lv_ldc (v := (-1000000001 : Int32)) hx hb hown (hts (.constant RX6 68 (-1000000001)) (List.mem_of_getElem? (i := 2) rfl)) dX6_set_39 ?_
    refine mcalli (w1 := (wM g q)) (va_runV (As := [.int (-1000000001 : Int32)]) (rest := []) hC (kX6_finds l g  q H.size S J (-1000000001 : Int32) _ h) (cwV 1 hts gX6_set_X6_finds rfl rfl rfl (by decide +kernel) ⟨Nat.le_of_ble_eq_true rfl, Nat.le_of_ble_eq_true rfl⟩) (mpreV E0_ok hK hE hA hw (Sub1.refl _) 0 rfl rfl) rfl rfl hl.1 rfl (lv_room (Nat.le_of_ble_eq_true rfl)) dX6_set_41 ⟨Nat.zero_le _, Nat.zero_le _⟩) hA hw (Sub1.refl _) (fun _ => Sub.whole rfl) (fun r6 u7 H locs h hw => ?_)
    obtain ⟨S8, J9⟩ := u7
    obtain ⟨hu, h⟩ := h
    replace hu : J = J9 := hu.symm
    subst hu
    rw [hQ]
    exact mreti (w := (wM g q)) (u := (S8, J)) hC hr hlocks hK hw ⟨rfl, h⟩ dX6_set_44
  refine lv_if_eq (tgt := 38) hx hb dX6_set_5 (by decide) (fun c23 => ?_) (fun c23 => ?_)
  · replace h := h.1 c23
    exact join5  _ _ _ h hw (lv_sub hl [0] rfl)
  · replace h := h.2 c23
    refine lv_iload_n hx hb dX6_set_8 rfl (lv_at hl 2 rfl) ?_
    refine lv_i2l (v := a2.toInt64) hx hb dX6_set_9 rfl ?_
    refine lv_lconst (v := (0 : Int64)) hx hb dX6_set_10 (by decide) ?_
    refine lv_ldc2 (v := (5 : Int64)) hx hb hown (hts (.constantLong RX6 106 (5)) (List.mem_of_getElem? (i := 1) rfl)) dX6_set_11 ?_
    refine mcalli (w1 := (fun _ => (wM g q) (S, J))) (wc := fun _ : Unit => ([] : va_W)) (u := ()) (va_runS (As := [.long a2.toInt64, .long (0 : Int64), .long (5 : Int64)]) (rest := []) hC (kX6_in l g  H.size a2.toInt64 (0 : Int64) (5 : Int64) _ h) (va_cwS 3 hts gX6_set_X6_in rfl rfl rfl (by decide +kernel) ⟨Nat.le_of_ble_eq_true rfl, Nat.le_of_ble_eq_true rfl⟩) (mpre E0_ok hK hE hA hw (Sub1.nil _)) rfl rfl hl.1 rfl (lv_room (Nat.le_of_ble_eq_true rfl)) dX6_set_14 ⟨Nat.zero_le _, Nat.zero_le _⟩) hA hw (Sub1.nil _) (fun _ => Sub.nil _) (fun r10 u11 H locs h hw => ?_)
    obtain ⟨_, h⟩ := h
    refine lv_if_eq (tgt := 38) hx hb dX6_set_17 (by decide) (fun c22 => ?_) (fun c22 => ?_)
    · replace h := h.1 c22
      exact join5  _ _ _ h hw (lv_sub hl [0] rfl)
    · replace h := h.2 c22
      refine lv_iload_n hx hb dX6_set_20 rfl (lv_at hl 3 rfl) ?_
      refine lv_i2l (v := a3.toInt64) hx hb dX6_set_21 rfl ?_
      refine lv_iload_n hx hb dX6_set_22 rfl (lv_at hl 2 rfl) ?_
      refine mcalli (w1 := (fun _ => (wM g q) (S, J))) (wc := fun _ : Unit => ([] : va_W)) (u := ()) (va_runS (As := [.int a2]) (rest := [.long a3.toInt64]) hC (kX6_leastOf l g  H.size a2 _ h) (va_cwS 1 hts gX6_set_X6_leastOf rfl rfl rfl (by decide +kernel) ⟨Nat.le_of_ble_eq_true rfl, Nat.le_of_ble_eq_true rfl⟩) (mpre E0_ok hK hE hA hw (Sub1.nil _)) rfl rfl hl.1 rfl (lv_room (Nat.le_of_ble_eq_true rfl)) dX6_set_23 ⟨Nat.zero_le _, Nat.zero_le _⟩) hA hw (Sub1.nil _) (fun _ => Sub.nil _) (fun r12 u13 H locs h hw => ?_)
      obtain ⟨_, h⟩ := h
      refine lv_i2l (v := r12.toInt64) hx hb dX6_set_26 rfl ?_
      refine lv_iload_n hx hb dX6_set_27 rfl (lv_at hl 2 rfl) ?_
      refine mcalli (w1 := (fun _ => (wM g q) (S, J))) (wc := fun _ : Unit => ([] : va_W)) (u := ()) (va_runS (As := [.int a2]) (rest := [.long r12.toInt64, .long a3.toInt64]) hC (kX6_mostOf l g  H.size a2 _ h) (va_cwS 1 hts gX6_set_X6_mostOf rfl rfl rfl (by decide +kernel) ⟨Nat.le_of_ble_eq_true rfl, Nat.le_of_ble_eq_true rfl⟩) (mpre E0_ok hK hE hA hw (Sub1.nil _)) rfl rfl hl.1 rfl (lv_room (Nat.le_of_ble_eq_true rfl)) dX6_set_28 ⟨Nat.zero_le _, Nat.zero_le _⟩) hA hw (Sub1.nil _) (fun _ => Sub.nil _) (fun r14 u15 H locs h hw => ?_)
      obtain ⟨_, h⟩ := h
      refine lv_i2l (v := r14.toInt64) hx hb dX6_set_31 rfl ?_
      refine mcalli (w1 := (fun _ => (wM g q) (S, J))) (wc := fun _ : Unit => ([] : va_W)) (u := ()) (va_runS (As := [.long a3.toInt64, .long r12.toInt64, .long r14.toInt64]) (rest := []) hC (kX6_in l g  H.size a3.toInt64 r12.toInt64 r14.toInt64 _ h) (va_cwS 3 hts gX6_set_X6_in rfl rfl rfl (by decide +kernel) ⟨Nat.le_of_ble_eq_true rfl, Nat.le_of_ble_eq_true rfl⟩) (mpre E0_ok hK hE hA hw (Sub1.nil _)) rfl rfl hl.1 rfl (lv_room (Nat.le_of_ble_eq_true rfl)) dX6_set_32 ⟨Nat.zero_le _, Nat.zero_le _⟩) hA hw (Sub1.nil _) (fun _ => Sub.nil _) (fun r16 u17 H locs h hw => ?_)
      obtain ⟨_, h⟩ := h
      refine lv_if_ne (tgt := 45) hx hb dX6_set_35 (by decide) (fun c21 => ?_) (fun c21 => ?_)
      · replace h := h.2 c21
        refine lv_aload_n hx hb dX6_set_45 rfl (lv_at hl 0 rfl) ?_
        refine lv_iload_n hx hb dX6_set_46 rfl (lv_at hl 1 rfl) ?_
        refine lv_iload_n hx hb dX6_set_47 rfl (lv_at hl 2 rfl) ?_
        refine mcalli (w1 := (wM g q)) (va_runV (As := [.int a1, .int a2]) (rest := []) hC (kX6_its l g  q H.size S J a1 a2 _ h) (cwV 2 hts gX6_set_X6_its rfl rfl rfl (by decide +kernel) ⟨Nat.le_of_ble_eq_true rfl, Nat.le_of_ble_eq_true rfl⟩) (mpreV E0_ok hK hE hA hw (Sub1.refl _) 0 rfl rfl) rfl rfl hl.1 rfl (lv_room (Nat.le_of_ble_eq_true rfl)) dX6_set_48 ⟨Nat.zero_le _, Nat.zero_le _⟩) hA hw (Sub1.refl _) (fun _ => Sub.whole rfl) (fun r18 u19 H locs h hw => ?_)
        obtain ⟨hu, h⟩ := h
        replace hu := hu.symm
        subst hu
        refine lv_istore (lv' := [(4, .int r18), (0, .ref (q 0)), (1, .int a1), (2, .int a2), (3, .int a3)]) hx hb dX6_set_51 hl (by decide) rfl (fun ls hl => ?_)
        refine lv_aload_n hx hb dX6_set_53 rfl (lv_at hl 1 rfl) ?_
        refine M_mg0 hC hinX6 hK hw (List.mem_of_getElem? (i := 3) rfl) dX6_set_54 ?_
        refine lv_iconst (v := (2 : Int32)) hx hb dX6_set_57 (by decide) ?_
        refine lv_bipush (v := (6 : Int32)) hx hb dX6_set_58 (by decide) ?_
        refine lv_iload_n hx hb dX6_set_60 rfl (lv_at hl 2 rfl) ?_
        refine lv_imul hx hb dX6_set_61 ?_
        refine lv_iadd hx hb dX6_set_62 ?_
        refine lv_iload_n hx hb dX6_set_63 rfl (lv_at hl 3 rfl) ?_
        refine lv_iadd hx hb dX6_set_64 ?_
        refine lv_iload_n hx hb dX6_set_65 rfl (lv_at hl 4 rfl) ?_
        obtain ⟨hi, h⟩ := h
        refine M_ms0 hC hK hw hi dX6_set_66 (fun S20 H locs eS20 hw => ?_)
        replace h := h S20 eS20
        refine lv_iload hx hb dX6_set_67 (lv_at hl 0 rfl) ?_
        rw [hQ]
        exact mreti (w := (wM g q)) (u := (S20, J)) hC hr hlocks hK hw ⟨rfl, h⟩ dX6_set_69
      · replace h := h.1 c21
        exact join5  _ _ _ h hw (lv_sub hl [0] rfl)
def wX6_join (S : Bun) (J : Lon) (a1 : Int32) (a2 : Int32) (a3 : Int32) (post : Int32 → Bun → Prop) : Prop :=
  wX6_isField S J a1 (fun r1 => wjoin (σ := Unit) (fun _ => wX6_finds S J (-1000000001 : Int32) (fun r6 S8 => post r6 S8)) (fun J3 => ((r1 = 0 → J3 ()) ∧ (¬ (r1 = 0) → wX6_isField S J a2 (fun r10 => ((r10 = 0 → J3 ()) ∧ (¬ (r10 = 0) → ((a1 = a2 → J3 ()) ∧ (¬ (a1 = a2) → vp_in ((38 : Int32) + a1) 56 ∧ wX6_has (S 1 ((38 : Int32) + a1).toNatClampNeg) a2 (fun r12 => wjoin (σ := Int32) (fun y14 => vp_in ((38 : Int32) + a1) 56 ∧ ∀ S18 : Bun, S18 = up S 1 ((38 : Int32) + a1).toNatClampNeg y14 → ((r12 = a3 → post (0 : Int32) S18) ∧ (¬ (r12 = a3) → post (1 : Int32) S18))) (fun J15 => ((a3 = 0 → vp_in ((38 : Int32) + a1) 56 ∧ J15 ((S 1 ((38 : Int32) + a1).toNatClampNeg) &&& (((1 : Int32) <<< (a2 &&& 31)) ^^^ (-1 : Int32)))) ∧ (¬ (a3 = 0) → vp_in ((38 : Int32) + a1) 56 ∧ J15 ((S 1 ((38 : Int32) + a1).toNatClampNeg) ||| ((1 : Int32) <<< (a2 &&& 31))))))))))))))))
set_option maxRecDepth 100000 in
set_option maxHeartbeats 4000000 in
theorem kX6_join (l : Launch) (g : Gl)  (q : Nat → Nat) (sz : Nat) (S : Bun) (J : Lon) (a1 : Int32) (a2 : Int32) (a3 : Int32) (post : Int32 → Bun → Prop) (h : wX6_join S J a1 a2 a3 post) : Met l yX6_join wsX6_join (rmm 2 46) (wPc g E0 ((wM g q) (S, J)) sz [.ref (q 0), .int a1, .int a2, .int a3]) (va_Qi (fun (r : Int32) (u : Bun × Lon) => u.2 = J ∧ post r u.1) (wB g (wM g q) (va_A ((wM g q) (S, J)) sz)) (va_A ((wM g q) (S, J)) sz)) 0 0 (va_A ((wM g q) (S, J)) sz) := by
  refine mstart (Qf := fun A => va_Qi (fun (r : Int32) (u : Bun × Lon) => u.2 = J ∧ post r u.1) (wB g (wM g q) A) A) (by decide) rfl (Nat.le_of_ble_eq_true rfl) ?_
  intro p e s m args below meth c A Q H locs ls hC hr hlocks hname hQ hA hK hE hw hl
  have hC : CallFix p m c cX6_join 5 s args wsX6_join RX6 := hC
  obtain ⟨hx, hb, -, hown, hts⟩ := id hC
  have hl : lv_has ls 5 [(0, .ref (q 0)), (1, .int a1), (2, .int a2), (3, .int a3)] := hl
  rw [wX6_join] at h
  have hinX6 : ∀ w ∈ wsX60, w ∈ wsX6_join := fun w hw9 => List.mem_cons_of_mem _ (List.mem_append_right _ hw9)
  refine lv_aload_n hx hb dX6_join_0 rfl (lv_at hl 0 rfl) ?_
  refine lv_iload_n hx hb dX6_join_1 rfl (lv_at hl 1 rfl) ?_
  refine mcalli (w1 := (wM g q)) (va_runV (As := [.int a1]) (rest := []) hC (kX6_isField l g  q H.size S J a1 _ h) (cwV 1 hts gX6_join_X6_isField rfl rfl rfl (by decide +kernel) ⟨Nat.le_of_ble_eq_true rfl, Nat.le_of_ble_eq_true rfl⟩) (mpreV E0_ok hK hE hA hw (Sub1.refl _) 0 rfl rfl) rfl rfl hl.1 rfl (lv_room (Nat.le_of_ble_eq_true rfl)) dX6_join_2 ⟨Nat.zero_le _, Nat.zero_le _⟩) hA hw (Sub1.refl _) (fun _ => Sub.whole rfl) (fun r1 u2 H locs h hw => ?_)
  obtain ⟨hu, h⟩ := h
  replace hu := hu.symm
  subst hu
  obtain ⟨J3, hJ4, h⟩ := h
  have join5 : ∀  (H : Heap) (locs : List Loc) (ls : Array Slot), J3 () → Wd g.1 A s.heap ((wM g q) (S, J)) H locs → lv_has ls 5 [(0, .ref (q 0))] → W p l e (rmm 2 46) s m args below meth c H locs 0 0 Q (F0 m 21 ls []) := by
    intro  H locs ls h hw hl
    replace h := hJ4 () h
    refine lv_aload_n hx hb dX6_join_21 rfl (lv_at hl 0 rfl) ?_
    refine lv_ldc (v := (-1000000001 : Int32)) hx hb hown (hts (.constant RX6 68 (-1000000001)) (List.mem_of_getElem? (i := 1) rfl)) dX6_join_22 ?_
    refine mcalli (w1 := (wM g q)) (va_runV (As := [.int (-1000000001 : Int32)]) (rest := []) hC (kX6_finds l g  q H.size S J (-1000000001 : Int32) _ h) (cwV 1 hts gX6_join_X6_finds rfl rfl rfl (by decide +kernel) ⟨Nat.le_of_ble_eq_true rfl, Nat.le_of_ble_eq_true rfl⟩) (mpreV E0_ok hK hE hA hw (Sub1.refl _) 0 rfl rfl) rfl rfl hl.1 rfl (lv_room (Nat.le_of_ble_eq_true rfl)) dX6_join_24 ⟨Nat.zero_le _, Nat.zero_le _⟩) hA hw (Sub1.refl _) (fun _ => Sub.whole rfl) (fun r6 u7 H locs h hw => ?_)
    obtain ⟨S8, J9⟩ := u7
    obtain ⟨hu, h⟩ := h
    replace hu : J = J9 := hu.symm
    subst hu
    rw [hQ]
    exact mreti (w := (wM g q)) (u := (S8, J)) hC hr hlocks hK hw ⟨rfl, h⟩ dX6_join_27
  refine lv_if_eq (tgt := 21) hx hb dX6_join_5 (by decide) (fun c23 => ?_) (fun c23 => ?_)
  · replace h := h.1 c23
    exact join5  _ _ _ h hw (lv_sub hl [0] rfl)
  · replace h := h.2 c23
    refine lv_aload_n hx hb dX6_join_8 rfl (lv_at hl 0 rfl) ?_
    refine lv_iload_n hx hb dX6_join_9 rfl (lv_at hl 2 rfl) ?_
    refine mcalli (w1 := (wM g q)) (va_runV (As := [.int a2]) (rest := []) hC (kX6_isField l g  q H.size S J a2 _ h) (cwV 1 hts gX6_join_X6_isField rfl rfl rfl (by decide +kernel) ⟨Nat.le_of_ble_eq_true rfl, Nat.le_of_ble_eq_true rfl⟩) (mpreV E0_ok hK hE hA hw (Sub1.refl _) 0 rfl rfl) rfl rfl hl.1 rfl (lv_room (Nat.le_of_ble_eq_true rfl)) dX6_join_10 ⟨Nat.zero_le _, Nat.zero_le _⟩) hA hw (Sub1.refl _) (fun _ => Sub.whole rfl) (fun r10 u11 H locs h hw => ?_)
    obtain ⟨hu, h⟩ := h
    replace hu := hu.symm
    subst hu
    refine lv_if_eq (tgt := 21) hx hb dX6_join_13 (by decide) (fun c22 => ?_) (fun c22 => ?_)
    · replace h := h.1 c22
      exact join5  _ _ _ h hw (lv_sub hl [0] rfl)
    · replace h := h.2 c22
      refine lv_iload_n hx hb dX6_join_16 rfl (lv_at hl 1 rfl) ?_
      refine lv_iload_n hx hb dX6_join_17 rfl (lv_at hl 2 rfl) ?_
      refine lv_icmp_ne (tgt := 28) hx hb dX6_join_18 (by decide) (fun c21 => ?_) (fun c21 => ?_)
      · replace h := h.2 c21
        refine lv_aload_n hx hb dX6_join_28 rfl (lv_at hl 0 rfl) ?_
        refine M_mg0 hC hinX6 hK hw (List.mem_of_getElem? (i := 2) rfl) dX6_join_29 ?_
        refine lv_bipush (v := (38 : Int32)) hx hb dX6_join_32 (by decide) ?_
        refine lv_iload_n hx hb dX6_join_34 rfl (lv_at hl 1 rfl) ?_
        refine lv_iadd hx hb dX6_join_35 ?_
        obtain ⟨hi, h⟩ := h
        refine M_ml0 hC hK hw hi dX6_join_36 ?_
        refine lv_iload_n hx hb dX6_join_37 rfl (lv_at hl 2 rfl) ?_
        refine mcalli (w1 := (fun _ => (wM g q) (S, J))) (wc := fun _ : Unit => ([] : va_W)) (u := ()) (va_runS (As := [.int (S 1 ((38 : Int32) + a1).toNatClampNeg), .int a2]) (rest := []) hC (kX6_has l g  H.size (S 1 ((38 : Int32) + a1).toNatClampNeg) a2 _ h) (va_cwS 2 hts gX6_join_X6_has rfl rfl rfl (by decide +kernel) ⟨Nat.le_of_ble_eq_true rfl, Nat.le_of_ble_eq_true rfl⟩) (mpre E0_ok hK hE hA hw (Sub1.nil _)) rfl rfl hl.1 rfl (lv_room (Nat.le_of_ble_eq_true rfl)) dX6_join_38 ⟨Nat.zero_le _, Nat.zero_le _⟩) hA hw (Sub1.nil _) (fun _ => Sub.nil _) (fun r12 u13 H locs h hw => ?_)
        obtain ⟨_, h⟩ := h
        refine lv_istore (lv' := [(4, .int r12), (0, .ref (q 0)), (1, .int a1), (2, .int a2), (3, .int a3)]) hx hb dX6_join_41 hl (by decide) rfl (fun ls hl => ?_)
        refine lv_aload_n hx hb dX6_join_43 rfl (lv_at hl 1 rfl) ?_
        refine M_mg0 hC hinX6 hK hw (List.mem_of_getElem? (i := 2) rfl) dX6_join_44 ?_
        refine lv_bipush (v := (38 : Int32)) hx hb dX6_join_47 (by decide) ?_
        refine lv_iload_n hx hb dX6_join_49 rfl (lv_at hl 2 rfl) ?_
        refine lv_iadd hx hb dX6_join_50 ?_
        refine lv_iload_n hx hb dX6_join_51 rfl (lv_at hl 4 rfl) ?_
        obtain ⟨J15, hJ16, h⟩ := h
        have join17 : ∀ (y14 : Int32) (H : Heap) (locs : List Loc) (ls : Array Slot), J15 y14 → Wd g.1 A s.heap ((wM g q) (S, J)) H locs → lv_has ls 5 [(3, .int a3), (4, .int r12)] → W p l e (rmm 2 46) s m args below meth c H locs 0 0 Q (F0 m 86 ls [.int y14, .int ((38 : Int32) + a1), .ref (q 1)]) := by
          intro y14 H locs ls h hw hl
          replace h := hJ16 y14 h
          obtain ⟨hi, h⟩ := h
          refine M_ms0 hC hK hw hi dX6_join_86 (fun S18 H locs eS18 hw => ?_)
          replace h := h S18 eS18
          refine lv_iload hx hb dX6_join_87 (lv_at hl 1 rfl) ?_
          refine lv_iload_n hx hb dX6_join_89 rfl (lv_at hl 0 rfl) ?_
          refine lv_icmp_ne (tgt := 97) hx hb dX6_join_90 (by decide) (fun c19 => ?_) (fun c19 => ?_)
          · replace h := h.2 c19
            refine lv_iconst (v := (1 : Int32)) hx hb dX6_join_97 (by decide) ?_
            rw [hQ]
            exact mreti (w := (wM g q)) (u := (S18, J)) hC hr hlocks hK hw ⟨rfl, h⟩ dX6_join_98
          · replace h := h.1 c19
            refine lv_iconst (v := (0 : Int32)) hx hb dX6_join_93 (by decide) ?_
            refine lv_goto (tgt := 98) hx hb dX6_join_94 (by decide) ?_
            rw [hQ]
            exact mreti (w := (wM g q)) (u := (S18, J)) hC hr hlocks hK hw ⟨rfl, h⟩ dX6_join_98
        refine lv_if_eq (tgt := 71) hx hb dX6_join_52 (by decide) (fun c20 => ?_) (fun c20 => ?_)
        · replace h := h.1 c20
          refine lv_aload_n hx hb dX6_join_71 rfl (lv_at hl 1 rfl) ?_
          refine M_mg0 hC hinX6 hK hw (List.mem_of_getElem? (i := 2) rfl) dX6_join_72 ?_
          refine lv_bipush (v := (38 : Int32)) hx hb dX6_join_75 (by decide) ?_
          refine lv_iload_n hx hb dX6_join_77 rfl (lv_at hl 2 rfl) ?_
          refine lv_iadd hx hb dX6_join_78 ?_
          obtain ⟨hi, h⟩ := h
          refine M_ml0 hC hK hw hi dX6_join_79 ?_
          refine lv_iconst (v := (1 : Int32)) hx hb dX6_join_80 (by decide) ?_
          refine lv_iload_n hx hb dX6_join_81 rfl (lv_at hl 3 rfl) ?_
          refine lv_ishl hx hb dX6_join_82 ?_
          refine lv_iconst (v := (-1 : Int32)) hx hb dX6_join_83 (by decide) ?_
          refine lv_ixor hx hb dX6_join_84 ?_
          refine lv_iand hx hb dX6_join_85 ?_
          exact join17 ((S 1 ((38 : Int32) + a1).toNatClampNeg) &&& (((1 : Int32) <<< (a2 &&& 31)) ^^^ (-1 : Int32))) _ _ _ h hw (lv_sub hl [4, 0] rfl)
        · replace h := h.2 c20
          refine lv_aload_n hx hb dX6_join_55 rfl (lv_at hl 1 rfl) ?_
          refine M_mg0 hC hinX6 hK hw (List.mem_of_getElem? (i := 2) rfl) dX6_join_56 ?_
          refine lv_bipush (v := (38 : Int32)) hx hb dX6_join_59 (by decide) ?_
          refine lv_iload_n hx hb dX6_join_61 rfl (lv_at hl 2 rfl) ?_
          refine lv_iadd hx hb dX6_join_62 ?_
          obtain ⟨hi, h⟩ := h
          refine M_ml0 hC hK hw hi dX6_join_63 ?_
          refine lv_iconst (v := (1 : Int32)) hx hb dX6_join_64 (by decide) ?_
          refine lv_iload_n hx hb dX6_join_65 rfl (lv_at hl 3 rfl) ?_
          refine lv_ishl hx hb dX6_join_66 ?_
          refine lv_ior hx hb dX6_join_67 ?_
          refine lv_goto (tgt := 86) hx hb dX6_join_68 (by decide) ?_
          exact join17 ((S 1 ((38 : Int32) + a1).toNatClampNeg) ||| ((1 : Int32) <<< (a2 &&& 31))) _ _ _ h hw (lv_sub hl [4, 0] rfl)
      · replace h := h.1 c21
        exact join5  _ _ _ h hw (lv_sub hl [0] rfl)
def wX6_joined (S : Bun) (J : Lon) (a1 : Int32) (post : Int32 → Bun → Prop) : Prop :=
  wX6_isField S J a1 (fun r1 => ((r1 = 0 → wX6_finds S J (-1000000001 : Int32) (fun r3 S5 => post r3 S5)) ∧ (¬ (r1 = 0) → vp_in ((38 : Int32) + a1) 56 ∧ post (S 1 ((38 : Int32) + a1).toNatClampNeg) S)))
set_option maxRecDepth 100000 in
set_option maxHeartbeats 4000000 in
theorem kX6_joined (l : Launch) (g : Gl)  (q : Nat → Nat) (sz : Nat) (S : Bun) (J : Lon) (a1 : Int32) (post : Int32 → Bun → Prop) (h : wX6_joined S J a1 post) : Met l yX6_joined wsX6_joined (rmm 2 46) (wPc g E0 ((wM g q) (S, J)) sz [.ref (q 0), .int a1]) (va_Qi (fun (r : Int32) (u : Bun × Lon) => u.2 = J ∧ post r u.1) (wB g (wM g q) (va_A ((wM g q) (S, J)) sz)) (va_A ((wM g q) (S, J)) sz)) 0 0 (va_A ((wM g q) (S, J)) sz) := by
  refine mstart (Qf := fun A => va_Qi (fun (r : Int32) (u : Bun × Lon) => u.2 = J ∧ post r u.1) (wB g (wM g q) A) A) (by decide) rfl (Nat.le_of_ble_eq_true rfl) ?_
  intro p e s m args below meth c A Q H locs ls hC hr hlocks hname hQ hA hK hE hw hl
  have hC : CallFix p m c cX6_joined 2 s args wsX6_joined RX6 := hC
  obtain ⟨hx, hb, -, hown, hts⟩ := id hC
  have hl : lv_has ls 2 [(0, .ref (q 0)), (1, .int a1)] := hl
  rw [wX6_joined] at h
  have hinX6 : ∀ w ∈ wsX60, w ∈ wsX6_joined := fun w hw9 => List.mem_cons_of_mem _ (List.mem_append_right _ hw9)
  refine lv_aload_n hx hb dX6_joined_0 rfl (lv_at hl 0 rfl) ?_
  refine lv_iload_n hx hb dX6_joined_1 rfl (lv_at hl 1 rfl) ?_
  refine mcalli (w1 := (wM g q)) (va_runV (As := [.int a1]) (rest := []) hC (kX6_isField l g  q H.size S J a1 _ h) (cwV 1 hts gX6_joined_X6_isField rfl rfl rfl (by decide +kernel) ⟨Nat.le_of_ble_eq_true rfl, Nat.le_of_ble_eq_true rfl⟩) (mpreV E0_ok hK hE hA hw (Sub1.refl _) 0 rfl rfl) rfl rfl hl.1 rfl (lv_room (Nat.le_of_ble_eq_true rfl)) dX6_joined_2 ⟨Nat.zero_le _, Nat.zero_le _⟩) hA hw (Sub1.refl _) (fun _ => Sub.whole rfl) (fun r1 u2 H locs h hw => ?_)
  obtain ⟨hu, h⟩ := h
  replace hu := hu.symm
  subst hu
  refine lv_if_eq (tgt := 20) hx hb dX6_joined_5 (by decide) (fun c7 => ?_) (fun c7 => ?_)
  · replace h := h.1 c7
    refine lv_aload_n hx hb dX6_joined_20 rfl (lv_at hl 0 rfl) ?_
    refine lv_ldc (v := (-1000000001 : Int32)) hx hb hown (hts (.constant RX6 68 (-1000000001)) (List.mem_of_getElem? (i := 2) rfl)) dX6_joined_21 ?_
    refine mcalli (w1 := (wM g q)) (va_runV (As := [.int (-1000000001 : Int32)]) (rest := []) hC (kX6_finds l g  q H.size S J (-1000000001 : Int32) _ h) (cwV 1 hts gX6_joined_X6_finds rfl rfl rfl (by decide +kernel) ⟨Nat.le_of_ble_eq_true rfl, Nat.le_of_ble_eq_true rfl⟩) (mpreV E0_ok hK hE hA hw (Sub1.refl _) 0 rfl rfl) rfl rfl hl.1 rfl (lv_room (Nat.le_of_ble_eq_true rfl)) dX6_joined_23 ⟨Nat.zero_le _, Nat.zero_le _⟩) hA hw (Sub1.refl _) (fun _ => Sub.whole rfl) (fun r3 u4 H locs h hw => ?_)
    obtain ⟨S5, J6⟩ := u4
    obtain ⟨hu, h⟩ := h
    replace hu : J = J6 := hu.symm
    subst hu
    rw [hQ]
    exact mreti (w := (wM g q)) (u := (S5, J)) hC hr hlocks hK hw ⟨rfl, h⟩ dX6_joined_26
  · replace h := h.2 c7
    refine lv_aload_n hx hb dX6_joined_8 rfl (lv_at hl 0 rfl) ?_
    refine M_mg0 hC hinX6 hK hw (List.mem_of_getElem? (i := 1) rfl) dX6_joined_9 ?_
    refine lv_bipush (v := (38 : Int32)) hx hb dX6_joined_12 (by decide) ?_
    refine lv_iload_n hx hb dX6_joined_14 rfl (lv_at hl 1 rfl) ?_
    refine lv_iadd hx hb dX6_joined_15 ?_
    obtain ⟨hi, h⟩ := h
    refine M_ml0 hC hK hw hi dX6_joined_16 ?_
    refine lv_goto (tgt := 26) hx hb dX6_joined_17 (by decide) ?_
    rw [hQ]
    exact mreti (w := (wM g q)) (u := (S, J)) hC hr hlocks hK hw ⟨rfl, h⟩ dX6_joined_26
def wX6_newTeam (S : Bun) (J : Lon) (a1 : Int32) (a2 : Int32) (post : Int32 → Bun → Prop) : Prop :=
  vp_in (1 : Int32) 56 ∧ vp_in ((44 : Int32) + ((2 : Int32) * (S 1 (1 : Int32).toNatClampNeg))) 56 ∧ ∀ S1 : Bun, S1 = up S 1 ((44 : Int32) + ((2 : Int32) * (S 1 (1 : Int32).toNatClampNeg))).toNatClampNeg a1 → vp_in (1 : Int32) 56 ∧ vp_in (((44 : Int32) + ((2 : Int32) * (S1 1 (1 : Int32).toNatClampNeg))) + (1 : Int32)) 56 ∧ ∀ S2 : Bun, S2 = up S1 1 (((44 : Int32) + ((2 : Int32) * (S1 1 (1 : Int32).toNatClampNeg))) + (1 : Int32)).toNatClampNeg a2 → vp_in (1 : Int32) 56 ∧ vp_in (1 : Int32) 56 ∧ ∀ S3 : Bun, S3 = up S2 1 (1 : Int32).toNatClampNeg ((S2 1 (1 : Int32).toNatClampNeg) + (1 : Int32)) → vp_in (1 : Int32) 56 ∧ post ((S3 1 (1 : Int32).toNatClampNeg) - (1 : Int32)) S3
set_option maxRecDepth 100000 in
set_option maxHeartbeats 4000000 in
theorem kX6_newTeam (l : Launch) (g : Gl)  (q : Nat → Nat) (sz : Nat) (S : Bun) (J : Lon) (a1 : Int32) (a2 : Int32) (post : Int32 → Bun → Prop) (h : wX6_newTeam S J a1 a2 post) : Met l yX6_newTeam wsX6_newTeam (rmm 0 0) (wPc g E0 ((wM g q) (S, J)) sz [.ref (q 0), .int a1, .int a2]) (va_Qi (fun (r : Int32) (u : Bun × Lon) => u.2 = J ∧ post r u.1) (wB g (wM g q) (va_A ((wM g q) (S, J)) sz)) (va_A ((wM g q) (S, J)) sz)) 0 0 (va_A ((wM g q) (S, J)) sz) := by
  refine mstart (Qf := fun A => va_Qi (fun (r : Int32) (u : Bun × Lon) => u.2 = J ∧ post r u.1) (wB g (wM g q) A) A) (by decide) rfl (Nat.le_of_ble_eq_true rfl) ?_
  intro p e s m args below meth c A Q H locs ls hC hr hlocks hname hQ hA hK hE hw hl
  have hC : CallFix p m c cX6_newTeam 3 s args wsX6_newTeam RX6 := hC
  obtain ⟨hx, hb, -, hown, hts⟩ := id hC
  have hl : lv_has ls 3 [(0, .ref (q 0)), (1, .int a1), (2, .int a2)] := hl
  rw [wX6_newTeam] at h
  have hinX6 : ∀ w ∈ wsX60, w ∈ wsX6_newTeam := fun w hw9 => List.mem_cons_of_mem _ (List.mem_append_right _ hw9)
  refine lv_aload_n hx hb dX6_newTeam_0 rfl (lv_at hl 0 rfl) ?_
  refine M_mg0 hC hinX6 hK hw (List.mem_of_getElem? (i := 1) rfl) dX6_newTeam_1 ?_
  refine lv_bipush (v := (44 : Int32)) hx hb dX6_newTeam_4 (by decide) ?_
  refine lv_iconst (v := (2 : Int32)) hx hb dX6_newTeam_6 (by decide) ?_
  refine lv_aload_n hx hb dX6_newTeam_7 rfl (lv_at hl 0 rfl) ?_
  refine M_mg0 hC hinX6 hK hw (List.mem_of_getElem? (i := 1) rfl) dX6_newTeam_8 ?_
  refine lv_iconst (v := (1 : Int32)) hx hb dX6_newTeam_11 (by decide) ?_
  obtain ⟨hi, h⟩ := h
  refine M_ml0 hC hK hw hi dX6_newTeam_12 ?_
  refine lv_imul hx hb dX6_newTeam_13 ?_
  refine lv_iadd hx hb dX6_newTeam_14 ?_
  refine lv_iload_n hx hb dX6_newTeam_15 rfl (lv_at hl 1 rfl) ?_
  obtain ⟨hi, h⟩ := h
  refine M_ms0 hC hK hw hi dX6_newTeam_16 (fun S1 H locs eS1 hw => ?_)
  replace h := h S1 eS1
  refine lv_aload_n hx hb dX6_newTeam_17 rfl (lv_at hl 0 rfl) ?_
  refine M_mg0 hC hinX6 hK hw (List.mem_of_getElem? (i := 1) rfl) dX6_newTeam_18 ?_
  refine lv_bipush (v := (44 : Int32)) hx hb dX6_newTeam_21 (by decide) ?_
  refine lv_iconst (v := (2 : Int32)) hx hb dX6_newTeam_23 (by decide) ?_
  refine lv_aload_n hx hb dX6_newTeam_24 rfl (lv_at hl 0 rfl) ?_
  refine M_mg0 hC hinX6 hK hw (List.mem_of_getElem? (i := 1) rfl) dX6_newTeam_25 ?_
  refine lv_iconst (v := (1 : Int32)) hx hb dX6_newTeam_28 (by decide) ?_
  obtain ⟨hi, h⟩ := h
  refine M_ml0 hC hK hw hi dX6_newTeam_29 ?_
  refine lv_imul hx hb dX6_newTeam_30 ?_
  refine lv_iadd hx hb dX6_newTeam_31 ?_
  refine lv_iconst (v := (1 : Int32)) hx hb dX6_newTeam_32 (by decide) ?_
  refine lv_iadd hx hb dX6_newTeam_33 ?_
  refine lv_iload_n hx hb dX6_newTeam_34 rfl (lv_at hl 2 rfl) ?_
  obtain ⟨hi, h⟩ := h
  refine M_ms0 hC hK hw hi dX6_newTeam_35 (fun S2 H locs eS2 hw => ?_)
  replace h := h S2 eS2
  refine lv_aload_n hx hb dX6_newTeam_36 rfl (lv_at hl 0 rfl) ?_
  refine M_mg0 hC hinX6 hK hw (List.mem_of_getElem? (i := 1) rfl) dX6_newTeam_37 ?_
  refine lv_iconst (v := (1 : Int32)) hx hb dX6_newTeam_40 (by decide) ?_
  refine lv_dup2_11 hx hb dX6_newTeam_41 rfl rfl ?_
  obtain ⟨hi, h⟩ := h
  refine M_ml0 hC hK hw hi dX6_newTeam_42 ?_
  refine lv_iconst (v := (1 : Int32)) hx hb dX6_newTeam_43 (by decide) ?_
  refine lv_iadd hx hb dX6_newTeam_44 ?_
  obtain ⟨hi, h⟩ := h
  refine M_ms0 hC hK hw hi dX6_newTeam_45 (fun S3 H locs eS3 hw => ?_)
  replace h := h S3 eS3
  refine lv_aload_n hx hb dX6_newTeam_46 rfl (lv_at hl 0 rfl) ?_
  refine M_mg0 hC hinX6 hK hw (List.mem_of_getElem? (i := 1) rfl) dX6_newTeam_47 ?_
  refine lv_iconst (v := (1 : Int32)) hx hb dX6_newTeam_50 (by decide) ?_
  obtain ⟨hi, h⟩ := h
  refine M_ml0 hC hK hw hi dX6_newTeam_51 ?_
  refine lv_iconst (v := (1 : Int32)) hx hb dX6_newTeam_52 (by decide) ?_
  refine lv_isub hx hb dX6_newTeam_53 ?_
  rw [hQ]
  exact mreti (w := (wM g q)) (u := (S3, J)) hC hr hlocks hK hw ⟨rfl, h⟩ dX6_newTeam_54
def wX6_team (S : Bun) (J : Lon) (a1 : Int32) (a2 : Int32) (post : Int32 → Bun → Prop) : Prop :=
  wX6_in a1.toInt64 (0 : Int64) (5 : Int64) (fun r1 => wjoin (σ := Unit) (fun _ => wX6_finds S J (-1000000001 : Int32) (fun r6 S8 => post r6 S8)) (fun J3 => ((r1 = 0 → J3 ()) ∧ (¬ (r1 = 0) → wX6_in a2.toInt64 (1 : Int64) (9 : Int64) (fun r10 => ((r10 = 0 → J3 ()) ∧ (¬ (r10 = 0) → vp_in (1 : Int32) 56 ∧ (((S 1 (1 : Int32).toNatClampNeg) = (6 : Int32) → wX6_finds S J (-1000000002 : Int32) (fun r16 S18 => post r16 S18)) ∧ (¬ ((S 1 (1 : Int32).toNatClampNeg) = (6 : Int32)) → wX6_newTeam S J a1 a2 (fun r12 S14 => post r12 S14))))))))))
set_option maxRecDepth 100000 in
set_option maxHeartbeats 4000000 in
theorem kX6_team (l : Launch) (g : Gl)  (q : Nat → Nat) (sz : Nat) (S : Bun) (J : Lon) (a1 : Int32) (a2 : Int32) (post : Int32 → Bun → Prop) (h : wX6_team S J a1 a2 post) : Met l yX6_team wsX6_team (rmm 1 25) (wPc g E0 ((wM g q) (S, J)) sz [.ref (q 0), .int a1, .int a2]) (va_Qi (fun (r : Int32) (u : Bun × Lon) => u.2 = J ∧ post r u.1) (wB g (wM g q) (va_A ((wM g q) (S, J)) sz)) (va_A ((wM g q) (S, J)) sz)) 0 0 (va_A ((wM g q) (S, J)) sz) := by
  refine mstart (Qf := fun A => va_Qi (fun (r : Int32) (u : Bun × Lon) => u.2 = J ∧ post r u.1) (wB g (wM g q) A) A) (by decide) rfl (Nat.le_of_ble_eq_true rfl) ?_
  intro p e s m args below meth c A Q H locs ls hC hr hlocks hname hQ hA hK hE hw hl
  have hC : CallFix p m c cX6_team 3 s args wsX6_team RX6 := hC
  obtain ⟨hx, hb, -, hown, hts⟩ := id hC
  have hl : lv_has ls 3 [(0, .ref (q 0)), (1, .int a1), (2, .int a2)] := hl
  rw [wX6_team] at h
  have hinX6 : ∀ w ∈ wsX60, w ∈ wsX6_team := fun w hw9 => List.mem_cons_of_mem _ (List.mem_append_right _ hw9)
  refine lv_iload_n hx hb dX6_team_0 rfl (lv_at hl 1 rfl) ?_
  refine lv_i2l (v := a1.toInt64) hx hb dX6_team_1 rfl ?_
  refine lv_lconst (v := (0 : Int64)) hx hb dX6_team_2 (by decide) ?_
  refine lv_ldc2 (v := (5 : Int64)) hx hb hown (hts (.constantLong RX6 106 (5)) (List.mem_of_getElem? (i := 1) rfl)) dX6_team_3 ?_
  refine mcalli (w1 := (fun _ => (wM g q) (S, J))) (wc := fun _ : Unit => ([] : va_W)) (u := ()) (va_runS (As := [.long a1.toInt64, .long (0 : Int64), .long (5 : Int64)]) (rest := []) hC (kX6_in l g  H.size a1.toInt64 (0 : Int64) (5 : Int64) _ h) (va_cwS 3 hts gX6_team_X6_in rfl rfl rfl (by decide +kernel) ⟨Nat.le_of_ble_eq_true rfl, Nat.le_of_ble_eq_true rfl⟩) (mpre E0_ok hK hE hA hw (Sub1.nil _)) rfl rfl hl.1 rfl (lv_room (Nat.le_of_ble_eq_true rfl)) dX6_team_6 ⟨Nat.zero_le _, Nat.zero_le _⟩) hA hw (Sub1.nil _) (fun _ => Sub.nil _) (fun r1 u2 H locs h hw => ?_)
  obtain ⟨_, h⟩ := h
  obtain ⟨J3, hJ4, h⟩ := h
  have join5 : ∀  (H : Heap) (locs : List Loc) (ls : Array Slot), J3 () → Wd g.1 A s.heap ((wM g q) (S, J)) H locs → lv_has ls 3 [(0, .ref (q 0))] → W p l e (rmm 1 25) s m args below meth c H locs 0 0 Q (F0 m 24 ls []) := by
    intro  H locs ls h hw hl
    replace h := hJ4 () h
    refine lv_aload_n hx hb dX6_team_24 rfl (lv_at hl 0 rfl) ?_
    refine lv_ldc (v := (-1000000001 : Int32)) hx hb hown (hts (.constant RX6 68 (-1000000001)) (List.mem_of_getElem? (i := 3) rfl)) dX6_team_25 ?_
    refine mcalli (w1 := (wM g q)) (va_runV (As := [.int (-1000000001 : Int32)]) (rest := []) hC (kX6_finds l g  q H.size S J (-1000000001 : Int32) _ h) (cwV 1 hts gX6_team_X6_finds rfl rfl rfl (by decide +kernel) ⟨Nat.le_of_ble_eq_true rfl, Nat.le_of_ble_eq_true rfl⟩) (mpreV E0_ok hK hE hA hw (Sub1.refl _) 0 rfl rfl) rfl rfl hl.1 rfl (lv_room (Nat.le_of_ble_eq_true rfl)) dX6_team_27 ⟨Nat.zero_le _, Nat.zero_le _⟩) hA hw (Sub1.refl _) (fun _ => Sub.whole rfl) (fun r6 u7 H locs h hw => ?_)
    obtain ⟨S8, J9⟩ := u7
    obtain ⟨hu, h⟩ := h
    replace hu : J = J9 := hu.symm
    subst hu
    rw [hQ]
    exact mreti (w := (wM g q)) (u := (S8, J)) hC hr hlocks hK hw ⟨rfl, h⟩ dX6_team_30
  refine lv_if_eq (tgt := 24) hx hb dX6_team_9 (by decide) (fun c22 => ?_) (fun c22 => ?_)
  · replace h := h.1 c22
    exact join5  _ _ _ h hw (lv_sub hl [0] rfl)
  · replace h := h.2 c22
    refine lv_iload_n hx hb dX6_team_12 rfl (lv_at hl 2 rfl) ?_
    refine lv_i2l (v := a2.toInt64) hx hb dX6_team_13 rfl ?_
    refine lv_lconst (v := (1 : Int64)) hx hb dX6_team_14 (by decide) ?_
    refine lv_ldc2 (v := (9 : Int64)) hx hb hown (hts (.constantLong RX6 114 (9)) (List.mem_of_getElem? (i := 2) rfl)) dX6_team_15 ?_
    refine mcalli (w1 := (fun _ => (wM g q) (S, J))) (wc := fun _ : Unit => ([] : va_W)) (u := ()) (va_runS (As := [.long a2.toInt64, .long (1 : Int64), .long (9 : Int64)]) (rest := []) hC (kX6_in l g  H.size a2.toInt64 (1 : Int64) (9 : Int64) _ h) (va_cwS 3 hts gX6_team_X6_in rfl rfl rfl (by decide +kernel) ⟨Nat.le_of_ble_eq_true rfl, Nat.le_of_ble_eq_true rfl⟩) (mpre E0_ok hK hE hA hw (Sub1.nil _)) rfl rfl hl.1 rfl (lv_room (Nat.le_of_ble_eq_true rfl)) dX6_team_18 ⟨Nat.zero_le _, Nat.zero_le _⟩) hA hw (Sub1.nil _) (fun _ => Sub.nil _) (fun r10 u11 H locs h hw => ?_)
    obtain ⟨_, h⟩ := h
    refine lv_if_ne (tgt := 31) hx hb dX6_team_21 (by decide) (fun c21 => ?_) (fun c21 => ?_)
    · replace h := h.2 c21
      refine lv_aload_n hx hb dX6_team_31 rfl (lv_at hl 0 rfl) ?_
      refine M_mg0 hC hinX6 hK hw (List.mem_of_getElem? (i := 4) rfl) dX6_team_32 ?_
      refine lv_iconst (v := (1 : Int32)) hx hb dX6_team_35 (by decide) ?_
      obtain ⟨hi, h⟩ := h
      refine M_ml0 hC hK hw hi dX6_team_36 ?_
      refine lv_bipush (v := (6 : Int32)) hx hb dX6_team_37 (by decide) ?_
      refine lv_icmp_ne (tgt := 51) hx hb dX6_team_39 (by decide) (fun c20 => ?_) (fun c20 => ?_)
      · replace h := h.2 c20
        refine lv_aload_n hx hb dX6_team_51 rfl (lv_at hl 0 rfl) ?_
        refine lv_iload_n hx hb dX6_team_52 rfl (lv_at hl 1 rfl) ?_
        refine lv_iload_n hx hb dX6_team_53 rfl (lv_at hl 2 rfl) ?_
        refine mcalli (w1 := (wM g q)) (va_runV (As := [.int a1, .int a2]) (rest := []) hC (kX6_newTeam l g  q H.size S J a1 a2 _ h) (cwV 2 hts gX6_team_X6_newTeam rfl rfl rfl (by decide +kernel) ⟨Nat.le_of_ble_eq_true rfl, Nat.le_of_ble_eq_true rfl⟩) (mpreV E0_ok hK hE hA hw (Sub1.refl _) 0 rfl rfl) rfl rfl hl.1 rfl (lv_room (Nat.le_of_ble_eq_true rfl)) dX6_team_54 ⟨Nat.zero_le _, Nat.zero_le _⟩) hA hw (Sub1.refl _) (fun _ => Sub.whole rfl) (fun r12 u13 H locs h hw => ?_)
        obtain ⟨S14, J15⟩ := u13
        obtain ⟨hu, h⟩ := h
        replace hu : J = J15 := hu.symm
        subst hu
        rw [hQ]
        exact mreti (w := (wM g q)) (u := (S14, J)) hC hr hlocks hK hw ⟨rfl, h⟩ dX6_team_57
      · replace h := h.1 c20
        refine lv_aload_n hx hb dX6_team_42 rfl (lv_at hl 0 rfl) ?_
        refine lv_ldc (v := (-1000000002 : Int32)) hx hb hown (hts (.constant RX6 78 (-1000000002)) (List.mem_of_getElem? (i := 5) rfl)) dX6_team_43 ?_
        refine mcalli (w1 := (wM g q)) (va_runV (As := [.int (-1000000002 : Int32)]) (rest := []) hC (kX6_finds l g  q H.size S J (-1000000002 : Int32) _ h) (cwV 1 hts gX6_team_X6_finds rfl rfl rfl (by decide +kernel) ⟨Nat.le_of_ble_eq_true rfl, Nat.le_of_ble_eq_true rfl⟩) (mpreV E0_ok hK hE hA hw (Sub1.refl _) 0 rfl rfl) rfl rfl hl.1 rfl (lv_room (Nat.le_of_ble_eq_true rfl)) dX6_team_45 ⟨Nat.zero_le _, Nat.zero_le _⟩) hA hw (Sub1.refl _) (fun _ => Sub.whole rfl) (fun r16 u17 H locs h hw => ?_)
        obtain ⟨S18, J19⟩ := u17
        obtain ⟨hu, h⟩ := h
        replace hu : J = J19 := hu.symm
        subst hu
        refine lv_goto (tgt := 57) hx hb dX6_team_48 (by decide) ?_
        rw [hQ]
        exact mreti (w := (wM g q)) (u := (S18, J)) hC hr hlocks hK hw ⟨rfl, h⟩ dX6_team_57
    · replace h := h.1 c21
      exact join5  _ _ _ h hw (lv_sub hl [0] rfl)
def wX6_kindOf (S : Bun) (J : Lon) (a1 : Int32) (post : Int32 → Prop) : Prop :=
  vp_in ((44 : Int32) + ((2 : Int32) * a1)) 56 ∧ post (S 1 ((44 : Int32) + ((2 : Int32) * a1)).toNatClampNeg)
set_option maxRecDepth 100000 in
set_option maxHeartbeats 4000000 in
theorem kX6_kindOf (l : Launch) (g : Gl)  (q : Nat → Nat) (sz : Nat) (S : Bun) (J : Lon) (a1 : Int32) (post : Int32 → Prop) (h : wX6_kindOf S J a1 post) : Met l yX6_kindOf wsX6_kindOf (rmm 0 0) (wPc g E0 ((wM g q) (S, J)) sz [.ref (q 0), .int a1]) (va_Qi (fun (r : Int32) (u : Bun × Lon) => u = (S, J) ∧ post r) (wB g (wM g q) (va_A ((wM g q) (S, J)) sz)) (va_A ((wM g q) (S, J)) sz)) 0 0 (va_A ((wM g q) (S, J)) sz) := by
  refine mstart (Qf := fun A => va_Qi (fun (r : Int32) (u : Bun × Lon) => u = (S, J) ∧ post r) (wB g (wM g q) A) A) (by decide) rfl (Nat.le_of_ble_eq_true rfl) ?_
  intro p e s m args below meth c A Q H locs ls hC hr hlocks hname hQ hA hK hE hw hl
  have hC : CallFix p m c cX6_kindOf 2 s args wsX6_kindOf RX6 := hC
  obtain ⟨hx, hb, -, hown, hts⟩ := id hC
  have hl : lv_has ls 2 [(0, .ref (q 0)), (1, .int a1)] := hl
  rw [wX6_kindOf] at h
  have hinX6 : ∀ w ∈ wsX60, w ∈ wsX6_kindOf := fun w hw9 => List.mem_cons_of_mem _ (List.mem_append_right _ hw9)
  refine lv_aload_n hx hb dX6_kindOf_0 rfl (lv_at hl 0 rfl) ?_
  refine M_mg0 hC hinX6 hK hw (List.mem_of_getElem? (i := 1) rfl) dX6_kindOf_1 ?_
  refine lv_bipush (v := (44 : Int32)) hx hb dX6_kindOf_4 (by decide) ?_
  refine lv_iconst (v := (2 : Int32)) hx hb dX6_kindOf_6 (by decide) ?_
  refine lv_iload_n hx hb dX6_kindOf_7 rfl (lv_at hl 1 rfl) ?_
  refine lv_imul hx hb dX6_kindOf_8 ?_
  refine lv_iadd hx hb dX6_kindOf_9 ?_
  obtain ⟨hi, h⟩ := h
  refine M_ml0 hC hK hw hi dX6_kindOf_10 ?_
  rw [hQ]
  exact mreti (w := (wM g q)) (u := (S, J)) hC hr hlocks hK hw ⟨rfl, h⟩ dX6_kindOf_11
def wX6_paceOf (S : Bun) (J : Lon) (a1 : Int32) (post : Int32 → Prop) : Prop :=
  vp_in (((44 : Int32) + ((2 : Int32) * a1)) + (1 : Int32)) 56 ∧ post (S 1 (((44 : Int32) + ((2 : Int32) * a1)) + (1 : Int32)).toNatClampNeg)
set_option maxRecDepth 100000 in
set_option maxHeartbeats 4000000 in
theorem kX6_paceOf (l : Launch) (g : Gl)  (q : Nat → Nat) (sz : Nat) (S : Bun) (J : Lon) (a1 : Int32) (post : Int32 → Prop) (h : wX6_paceOf S J a1 post) : Met l yX6_paceOf wsX6_paceOf (rmm 0 0) (wPc g E0 ((wM g q) (S, J)) sz [.ref (q 0), .int a1]) (va_Qi (fun (r : Int32) (u : Bun × Lon) => u = (S, J) ∧ post r) (wB g (wM g q) (va_A ((wM g q) (S, J)) sz)) (va_A ((wM g q) (S, J)) sz)) 0 0 (va_A ((wM g q) (S, J)) sz) := by
  refine mstart (Qf := fun A => va_Qi (fun (r : Int32) (u : Bun × Lon) => u = (S, J) ∧ post r) (wB g (wM g q) A) A) (by decide) rfl (Nat.le_of_ble_eq_true rfl) ?_
  intro p e s m args below meth c A Q H locs ls hC hr hlocks hname hQ hA hK hE hw hl
  have hC : CallFix p m c cX6_paceOf 2 s args wsX6_paceOf RX6 := hC
  obtain ⟨hx, hb, -, hown, hts⟩ := id hC
  have hl : lv_has ls 2 [(0, .ref (q 0)), (1, .int a1)] := hl
  rw [wX6_paceOf] at h
  have hinX6 : ∀ w ∈ wsX60, w ∈ wsX6_paceOf := fun w hw9 => List.mem_cons_of_mem _ (List.mem_append_right _ hw9)
  refine lv_aload_n hx hb dX6_paceOf_0 rfl (lv_at hl 0 rfl) ?_
  refine M_mg0 hC hinX6 hK hw (List.mem_of_getElem? (i := 1) rfl) dX6_paceOf_1 ?_
  refine lv_bipush (v := (44 : Int32)) hx hb dX6_paceOf_4 (by decide) ?_
  refine lv_iconst (v := (2 : Int32)) hx hb dX6_paceOf_6 (by decide) ?_
  refine lv_iload_n hx hb dX6_paceOf_7 rfl (lv_at hl 1 rfl) ?_
  refine lv_imul hx hb dX6_paceOf_8 ?_
  refine lv_iadd hx hb dX6_paceOf_9 ?_
  refine lv_iconst (v := (1 : Int32)) hx hb dX6_paceOf_10 (by decide) ?_
  refine lv_iadd hx hb dX6_paceOf_11 ?_
  obtain ⟨hi, h⟩ := h
  refine M_ml0 hC hK hw hi dX6_paceOf_12 ?_
  rw [hQ]
  exact mreti (w := (wM g q)) (u := (S, J)) hC hr hlocks hK hw ⟨rfl, h⟩ dX6_paceOf_13
def wX6_dear (S : Bun) (J : Lon) (a1 : Int32) (post : Int32 → Prop) : Prop :=
  wX6_kindOf S J a1 (fun r1 => ∀ x3 : Int32, x3 = r1 → ((x3 = (1 : Int32) → post (1 : Int32)) ∧ (x3 = (2 : Int32) → post (2 : Int32)) ∧ (x3 = (3 : Int32) → post (3 : Int32)) ∧ (x3 = (4 : Int32) → post (1 : Int32)) ∧ (x3 = (5 : Int32) → post (6 : Int32)) ∧ ((x3.toInt < 1 ∨ 5 < x3.toInt) → post (2 : Int32))))
set_option maxRecDepth 100000 in
set_option maxHeartbeats 4000000 in
theorem kX6_dear (l : Launch) (g : Gl)  (q : Nat → Nat) (sz : Nat) (S : Bun) (J : Lon) (a1 : Int32) (post : Int32 → Prop) (h : wX6_dear S J a1 post) : Met l yX6_dear wsX6_dear (rmm 1 21) (wPc g E0 ((wM g q) (S, J)) sz [.ref (q 0), .int a1]) (va_Qi (fun (r : Int32) (u : Bun × Lon) => u = (S, J) ∧ post r) (wB g (wM g q) (va_A ((wM g q) (S, J)) sz)) (va_A ((wM g q) (S, J)) sz)) 0 0 (va_A ((wM g q) (S, J)) sz) := by
  refine mstart (Qf := fun A => va_Qi (fun (r : Int32) (u : Bun × Lon) => u = (S, J) ∧ post r) (wB g (wM g q) A) A) (by decide) rfl (Nat.le_of_ble_eq_true rfl) ?_
  intro p e s m args below meth c A Q H locs ls hC hr hlocks hname hQ hA hK hE hw hl
  have hC : CallFix p m c cX6_dear 2 s args wsX6_dear RX6 := hC
  obtain ⟨hx, hb, -, hown, hts⟩ := id hC
  have hl : lv_has ls 2 [(0, .ref (q 0)), (1, .int a1)] := hl
  rw [wX6_dear] at h
  refine lv_aload_n hx hb dX6_dear_0 rfl (lv_at hl 0 rfl) ?_
  refine lv_iload_n hx hb dX6_dear_1 rfl (lv_at hl 1 rfl) ?_
  refine mcalli (w1 := (wM g q)) (va_runV (As := [.int a1]) (rest := []) hC (kX6_kindOf l g  q H.size S J a1 _ h) (cwV 1 hts gX6_dear_X6_kindOf rfl rfl rfl (by decide +kernel) ⟨Nat.le_of_ble_eq_true rfl, Nat.le_of_ble_eq_true rfl⟩) (mpreV E0_ok hK hE hA hw (Sub1.refl _) 0 rfl rfl) rfl rfl hl.1 rfl (lv_room (Nat.le_of_ble_eq_true rfl)) dX6_dear_2 ⟨Nat.zero_le _, Nat.zero_le _⟩) hA hw (Sub1.refl _) (fun _ => Sub.whole rfl) (fun r1 u2 H locs h hw => ?_)
  obtain ⟨hu, h⟩ := h
  replace hu := hu.symm
  subst hu
  refine lv_topi (fun x3 ex3 => ?_)
  replace h := h x3 ex3
  rcases sw1_5 x3 with c4 | c4 | c4 | c4 | c4 | c4
  · replace h := h.1 c4
    rw [c4]
    refine lv_tableIn (tgt := 40) (off := 35) hx hb dX6_dear_5 (by decide) (by decide) rfl (by decide) ?_
    refine lv_iconst (v := (1 : Int32)) hx hb dX6_dear_40 (by decide) ?_
    rw [hQ]
    exact mreti (w := (wM g q)) (u := (S, J)) hC hr hlocks hK hw ⟨rfl, h⟩ dX6_dear_41
  · replace h := h.2.1 c4
    rw [c4]
    refine lv_tableIn (tgt := 47) (off := 42) hx hb dX6_dear_5 (by decide) (by decide) rfl (by decide) ?_
    refine lv_iconst (v := (2 : Int32)) hx hb dX6_dear_47 (by decide) ?_
    rw [hQ]
    exact mreti (w := (wM g q)) (u := (S, J)) hC hr hlocks hK hw ⟨rfl, h⟩ dX6_dear_48
  · replace h := h.2.2.1 c4
    rw [c4]
    refine lv_tableIn (tgt := 42) (off := 37) hx hb dX6_dear_5 (by decide) (by decide) rfl (by decide) ?_
    refine lv_iconst (v := (3 : Int32)) hx hb dX6_dear_42 (by decide) ?_
    rw [hQ]
    exact mreti (w := (wM g q)) (u := (S, J)) hC hr hlocks hK hw ⟨rfl, h⟩ dX6_dear_43
  · replace h := h.2.2.2.1 c4
    rw [c4]
    refine lv_tableIn (tgt := 40) (off := 35) hx hb dX6_dear_5 (by decide) (by decide) rfl (by decide) ?_
    refine lv_iconst (v := (1 : Int32)) hx hb dX6_dear_40 (by decide) ?_
    rw [hQ]
    exact mreti (w := (wM g q)) (u := (S, J)) hC hr hlocks hK hw ⟨rfl, h⟩ dX6_dear_41
  · replace h := h.2.2.2.2.1 c4
    rw [c4]
    refine lv_tableIn (tgt := 44) (off := 39) hx hb dX6_dear_5 (by decide) (by decide) rfl (by decide) ?_
    refine lv_bipush (v := (6 : Int32)) hx hb dX6_dear_44 (by decide) ?_
    rw [hQ]
    exact mreti (w := (wM g q)) (u := (S, J)) hC hr hlocks hK hw ⟨rfl, h⟩ dX6_dear_46
  · replace h := h.2.2.2.2.2 c4
    refine lv_tableOut (tgt := 47) hx hb dX6_dear_5 c4 (by decide) ?_
    refine lv_iconst (v := (2 : Int32)) hx hb dX6_dear_47 (by decide) ?_
    rw [hQ]
    exact mreti (w := (wM g q)) (u := (S, J)) hC hr hlocks hK hw ⟨rfl, h⟩ dX6_dear_48
def wX6_teamOf (S : Bun) (J : Lon) (a1 : Int32) (a2 : Int32) (post : Int32 → Bun → Prop) : Prop :=
  wX6_isTeam S J a1 (fun r1 => wjoin (σ := Unit) (fun _ => wX6_finds S J (-1000000001 : Int32) (fun r6 S8 => post r6 S8)) (fun J3 => ((r1 = 0 → J3 ()) ∧ (¬ (r1 = 0) → wX6_in a2.toInt64 (0 : Int64) (2 : Int64) (fun r10 => ((r10 = 0 → J3 ()) ∧ (¬ (r10 = 0) → ((a2 = 0 → wX6_kindOf S J a1 (fun r17 => post r17 S)) ∧ (¬ (a2 = 0) → ((a2 = (1 : Int32) → wX6_paceOf S J a1 (fun r14 => post r14 S)) ∧ (¬ (a2 = (1 : Int32)) → wX6_dear S J a1 (fun r12 => post r12 S))))))))))))
set_option maxRecDepth 100000 in
set_option maxHeartbeats 4000000 in
theorem kX6_teamOf (l : Launch) (g : Gl)  (q : Nat → Nat) (sz : Nat) (S : Bun) (J : Lon) (a1 : Int32) (a2 : Int32) (post : Int32 → Bun → Prop) (h : wX6_teamOf S J a1 a2 post) : Met l yX6_teamOf wsX6_teamOf (rmm 2 46) (wPc g E0 ((wM g q) (S, J)) sz [.ref (q 0), .int a1, .int a2]) (va_Qi (fun (r : Int32) (u : Bun × Lon) => u.2 = J ∧ post r u.1) (wB g (wM g q) (va_A ((wM g q) (S, J)) sz)) (va_A ((wM g q) (S, J)) sz)) 0 0 (va_A ((wM g q) (S, J)) sz) := by
  refine mstart (Qf := fun A => va_Qi (fun (r : Int32) (u : Bun × Lon) => u.2 = J ∧ post r u.1) (wB g (wM g q) A) A) (by decide) rfl (Nat.le_of_ble_eq_true rfl) ?_
  intro p e s m args below meth c A Q H locs ls hC hr hlocks hname hQ hA hK hE hw hl
  have hC : CallFix p m c cX6_teamOf 3 s args wsX6_teamOf RX6 := hC
  obtain ⟨hx, hb, -, hown, hts⟩ := id hC
  have hl : lv_has ls 3 [(0, .ref (q 0)), (1, .int a1), (2, .int a2)] := hl
  rw [wX6_teamOf] at h
  refine lv_aload_n hx hb dX6_teamOf_0 rfl (lv_at hl 0 rfl) ?_
  refine lv_iload_n hx hb dX6_teamOf_1 rfl (lv_at hl 1 rfl) ?_
  refine mcalli (w1 := (wM g q)) (va_runV (As := [.int a1]) (rest := []) hC (kX6_isTeam l g  q H.size S J a1 _ h) (cwV 1 hts gX6_teamOf_X6_isTeam rfl rfl rfl (by decide +kernel) ⟨Nat.le_of_ble_eq_true rfl, Nat.le_of_ble_eq_true rfl⟩) (mpreV E0_ok hK hE hA hw (Sub1.refl _) 0 rfl rfl) rfl rfl hl.1 rfl (lv_room (Nat.le_of_ble_eq_true rfl)) dX6_teamOf_2 ⟨Nat.zero_le _, Nat.zero_le _⟩) hA hw (Sub1.refl _) (fun _ => Sub.whole rfl) (fun r1 u2 H locs h hw => ?_)
  obtain ⟨hu, h⟩ := h
  replace hu := hu.symm
  subst hu
  obtain ⟨J3, hJ4, h⟩ := h
  have join5 : ∀  (H : Heap) (locs : List Loc) (ls : Array Slot), J3 () → Wd g.1 A s.heap ((wM g q) (S, J)) H locs → lv_has ls 3 [(0, .ref (q 0))] → W p l e (rmm 2 46) s m args below meth c H locs 0 0 Q (F0 m 20 ls []) := by
    intro  H locs ls h hw hl
    replace h := hJ4 () h
    refine lv_aload_n hx hb dX6_teamOf_20 rfl (lv_at hl 0 rfl) ?_
    refine lv_ldc (v := (-1000000001 : Int32)) hx hb hown (hts (.constant RX6 68 (-1000000001)) (List.mem_of_getElem? (i := 2) rfl)) dX6_teamOf_21 ?_
    refine mcalli (w1 := (wM g q)) (va_runV (As := [.int (-1000000001 : Int32)]) (rest := []) hC (kX6_finds l g  q H.size S J (-1000000001 : Int32) _ h) (cwV 1 hts gX6_teamOf_X6_finds rfl rfl rfl (by decide +kernel) ⟨Nat.le_of_ble_eq_true rfl, Nat.le_of_ble_eq_true rfl⟩) (mpreV E0_ok hK hE hA hw (Sub1.refl _) 0 rfl rfl) rfl rfl hl.1 rfl (lv_room (Nat.le_of_ble_eq_true rfl)) dX6_teamOf_23 ⟨Nat.zero_le _, Nat.zero_le _⟩) hA hw (Sub1.refl _) (fun _ => Sub.whole rfl) (fun r6 u7 H locs h hw => ?_)
    obtain ⟨S8, J9⟩ := u7
    obtain ⟨hu, h⟩ := h
    replace hu : J = J9 := hu.symm
    subst hu
    rw [hQ]
    exact mreti (w := (wM g q)) (u := (S8, J)) hC hr hlocks hK hw ⟨rfl, h⟩ dX6_teamOf_26
  refine lv_if_eq (tgt := 20) hx hb dX6_teamOf_5 (by decide) (fun c21 => ?_) (fun c21 => ?_)
  · replace h := h.1 c21
    exact join5  _ _ _ h hw (lv_sub hl [0] rfl)
  · replace h := h.2 c21
    refine lv_iload_n hx hb dX6_teamOf_8 rfl (lv_at hl 2 rfl) ?_
    refine lv_i2l (v := a2.toInt64) hx hb dX6_teamOf_9 rfl ?_
    refine lv_lconst (v := (0 : Int64)) hx hb dX6_teamOf_10 (by decide) ?_
    refine lv_ldc2 (v := (2 : Int64)) hx hb hown (hts (.constantLong RX6 125 (2)) (List.mem_of_getElem? (i := 1) rfl)) dX6_teamOf_11 ?_
    refine mcalli (w1 := (fun _ => (wM g q) (S, J))) (wc := fun _ : Unit => ([] : va_W)) (u := ()) (va_runS (As := [.long a2.toInt64, .long (0 : Int64), .long (2 : Int64)]) (rest := []) hC (kX6_in l g  H.size a2.toInt64 (0 : Int64) (2 : Int64) _ h) (va_cwS 3 hts gX6_teamOf_X6_in rfl rfl rfl (by decide +kernel) ⟨Nat.le_of_ble_eq_true rfl, Nat.le_of_ble_eq_true rfl⟩) (mpre E0_ok hK hE hA hw (Sub1.nil _)) rfl rfl hl.1 rfl (lv_room (Nat.le_of_ble_eq_true rfl)) dX6_teamOf_14 ⟨Nat.zero_le _, Nat.zero_le _⟩) hA hw (Sub1.nil _) (fun _ => Sub.nil _) (fun r10 u11 H locs h hw => ?_)
    obtain ⟨_, h⟩ := h
    refine lv_if_ne (tgt := 27) hx hb dX6_teamOf_17 (by decide) (fun c20 => ?_) (fun c20 => ?_)
    · replace h := h.2 c20
      refine lv_iload_n hx hb dX6_teamOf_27 rfl (lv_at hl 2 rfl) ?_
      refine lv_if_ne (tgt := 39) hx hb dX6_teamOf_28 (by decide) (fun c19 => ?_) (fun c19 => ?_)
      · replace h := h.2 c19
        refine lv_iload_n hx hb dX6_teamOf_39 rfl (lv_at hl 2 rfl) ?_
        refine lv_iconst (v := (1 : Int32)) hx hb dX6_teamOf_40 (by decide) ?_
        refine lv_icmp_ne (tgt := 52) hx hb dX6_teamOf_41 (by decide) (fun c16 => ?_) (fun c16 => ?_)
        · replace h := h.2 c16
          refine lv_aload_n hx hb dX6_teamOf_52 rfl (lv_at hl 0 rfl) ?_
          refine lv_iload_n hx hb dX6_teamOf_53 rfl (lv_at hl 1 rfl) ?_
          refine mcalli (w1 := (wM g q)) (va_runV (As := [.int a1]) (rest := []) hC (kX6_dear l g  q H.size S J a1 _ h) (cwV 1 hts gX6_teamOf_X6_dear rfl rfl rfl (by decide +kernel) ⟨Nat.le_of_ble_eq_true rfl, Nat.le_of_ble_eq_true rfl⟩) (mpreV E0_ok hK hE hA hw (Sub1.refl _) 0 rfl rfl) rfl rfl hl.1 rfl (lv_room (Nat.le_of_ble_eq_true rfl)) dX6_teamOf_54 ⟨Nat.zero_le _, Nat.zero_le _⟩) hA hw (Sub1.refl _) (fun _ => Sub.whole rfl) (fun r12 u13 H locs h hw => ?_)
          obtain ⟨hu, h⟩ := h
          replace hu := hu.symm
          subst hu
          rw [hQ]
          exact mreti (w := (wM g q)) (u := (S, J)) hC hr hlocks hK hw ⟨rfl, h⟩ dX6_teamOf_57
        · replace h := h.1 c16
          refine lv_aload_n hx hb dX6_teamOf_44 rfl (lv_at hl 0 rfl) ?_
          refine lv_iload_n hx hb dX6_teamOf_45 rfl (lv_at hl 1 rfl) ?_
          refine mcalli (w1 := (wM g q)) (va_runV (As := [.int a1]) (rest := []) hC (kX6_paceOf l g  q H.size S J a1 _ h) (cwV 1 hts gX6_teamOf_X6_paceOf rfl rfl rfl (by decide +kernel) ⟨Nat.le_of_ble_eq_true rfl, Nat.le_of_ble_eq_true rfl⟩) (mpreV E0_ok hK hE hA hw (Sub1.refl _) 0 rfl rfl) rfl rfl hl.1 rfl (lv_room (Nat.le_of_ble_eq_true rfl)) dX6_teamOf_46 ⟨Nat.zero_le _, Nat.zero_le _⟩) hA hw (Sub1.refl _) (fun _ => Sub.whole rfl) (fun r14 u15 H locs h hw => ?_)
          obtain ⟨hu, h⟩ := h
          replace hu := hu.symm
          subst hu
          refine lv_goto (tgt := 57) hx hb dX6_teamOf_49 (by decide) ?_
          rw [hQ]
          exact mreti (w := (wM g q)) (u := (S, J)) hC hr hlocks hK hw ⟨rfl, h⟩ dX6_teamOf_57
      · replace h := h.1 c19
        refine lv_aload_n hx hb dX6_teamOf_31 rfl (lv_at hl 0 rfl) ?_
        refine lv_iload_n hx hb dX6_teamOf_32 rfl (lv_at hl 1 rfl) ?_
        refine mcalli (w1 := (wM g q)) (va_runV (As := [.int a1]) (rest := []) hC (kX6_kindOf l g  q H.size S J a1 _ h) (cwV 1 hts gX6_teamOf_X6_kindOf rfl rfl rfl (by decide +kernel) ⟨Nat.le_of_ble_eq_true rfl, Nat.le_of_ble_eq_true rfl⟩) (mpreV E0_ok hK hE hA hw (Sub1.refl _) 0 rfl rfl) rfl rfl hl.1 rfl (lv_room (Nat.le_of_ble_eq_true rfl)) dX6_teamOf_33 ⟨Nat.zero_le _, Nat.zero_le _⟩) hA hw (Sub1.refl _) (fun _ => Sub.whole rfl) (fun r17 u18 H locs h hw => ?_)
        obtain ⟨hu, h⟩ := h
        replace hu := hu.symm
        subst hu
        refine lv_goto (tgt := 57) hx hb dX6_teamOf_36 (by decide) ?_
        rw [hQ]
        exact mreti (w := (wM g q)) (u := (S, J)) hC hr hlocks hK hw ⟨rfl, h⟩ dX6_teamOf_57
    · replace h := h.1 c20
      exact join5  _ _ _ h hw (lv_sub hl [0] rfl)
def wX6_pace (S : Bun) (J : Lon) (a1 : Int32) (a2 : Int32) (post : Int32 → Bun → Prop) : Prop :=
  wX6_isTeam S J a1 (fun r1 => wjoin (σ := Unit) (fun _ => wX6_finds S J (-1000000001 : Int32) (fun r6 S8 => post r6 S8)) (fun J3 => ((r1 = 0 → J3 ()) ∧ (¬ (r1 = 0) → wX6_in a2.toInt64 (1 : Int64) (9 : Int64) (fun r10 => ((r10 = 0 → J3 ()) ∧ (¬ (r10 = 0) → wX6_paceOf S J a1 (fun r12 => vp_in (((44 : Int32) + ((2 : Int32) * a1)) + (1 : Int32)) 56 ∧ ∀ S14 : Bun, S14 = up S 1 (((44 : Int32) + ((2 : Int32) * a1)) + (1 : Int32)).toNatClampNeg a2 → post r12 S14))))))))
set_option maxRecDepth 100000 in
set_option maxHeartbeats 4000000 in
theorem kX6_pace (l : Launch) (g : Gl)  (q : Nat → Nat) (sz : Nat) (S : Bun) (J : Lon) (a1 : Int32) (a2 : Int32) (post : Int32 → Bun → Prop) (h : wX6_pace S J a1 a2 post) : Met l yX6_pace wsX6_pace (rmm 2 46) (wPc g E0 ((wM g q) (S, J)) sz [.ref (q 0), .int a1, .int a2]) (va_Qi (fun (r : Int32) (u : Bun × Lon) => u.2 = J ∧ post r u.1) (wB g (wM g q) (va_A ((wM g q) (S, J)) sz)) (va_A ((wM g q) (S, J)) sz)) 0 0 (va_A ((wM g q) (S, J)) sz) := by
  refine mstart (Qf := fun A => va_Qi (fun (r : Int32) (u : Bun × Lon) => u.2 = J ∧ post r u.1) (wB g (wM g q) A) A) (by decide) rfl (Nat.le_of_ble_eq_true rfl) ?_
  intro p e s m args below meth c A Q H locs ls hC hr hlocks hname hQ hA hK hE hw hl
  have hC : CallFix p m c cX6_pace 4 s args wsX6_pace RX6 := hC
  obtain ⟨hx, hb, -, hown, hts⟩ := id hC
  have hl : lv_has ls 4 [(0, .ref (q 0)), (1, .int a1), (2, .int a2)] := hl
  rw [wX6_pace] at h
  have hinX6 : ∀ w ∈ wsX60, w ∈ wsX6_pace := fun w hw9 => List.mem_cons_of_mem _ (List.mem_append_right _ hw9)
  refine lv_aload_n hx hb dX6_pace_0 rfl (lv_at hl 0 rfl) ?_
  refine lv_iload_n hx hb dX6_pace_1 rfl (lv_at hl 1 rfl) ?_
  refine mcalli (w1 := (wM g q)) (va_runV (As := [.int a1]) (rest := []) hC (kX6_isTeam l g  q H.size S J a1 _ h) (cwV 1 hts gX6_pace_X6_isTeam rfl rfl rfl (by decide +kernel) ⟨Nat.le_of_ble_eq_true rfl, Nat.le_of_ble_eq_true rfl⟩) (mpreV E0_ok hK hE hA hw (Sub1.refl _) 0 rfl rfl) rfl rfl hl.1 rfl (lv_room (Nat.le_of_ble_eq_true rfl)) dX6_pace_2 ⟨Nat.zero_le _, Nat.zero_le _⟩) hA hw (Sub1.refl _) (fun _ => Sub.whole rfl) (fun r1 u2 H locs h hw => ?_)
  obtain ⟨hu, h⟩ := h
  replace hu := hu.symm
  subst hu
  obtain ⟨J3, hJ4, h⟩ := h
  have join5 : ∀  (H : Heap) (locs : List Loc) (ls : Array Slot), J3 () → Wd g.1 A s.heap ((wM g q) (S, J)) H locs → lv_has ls 4 [(0, .ref (q 0))] → W p l e (rmm 2 46) s m args below meth c H locs 0 0 Q (F0 m 20 ls []) := by
    intro  H locs ls h hw hl
    replace h := hJ4 () h
    refine lv_aload_n hx hb dX6_pace_20 rfl (lv_at hl 0 rfl) ?_
    refine lv_ldc (v := (-1000000001 : Int32)) hx hb hown (hts (.constant RX6 68 (-1000000001)) (List.mem_of_getElem? (i := 2) rfl)) dX6_pace_21 ?_
    refine mcalli (w1 := (wM g q)) (va_runV (As := [.int (-1000000001 : Int32)]) (rest := []) hC (kX6_finds l g  q H.size S J (-1000000001 : Int32) _ h) (cwV 1 hts gX6_pace_X6_finds rfl rfl rfl (by decide +kernel) ⟨Nat.le_of_ble_eq_true rfl, Nat.le_of_ble_eq_true rfl⟩) (mpreV E0_ok hK hE hA hw (Sub1.refl _) 0 rfl rfl) rfl rfl hl.1 rfl (lv_room (Nat.le_of_ble_eq_true rfl)) dX6_pace_23 ⟨Nat.zero_le _, Nat.zero_le _⟩) hA hw (Sub1.refl _) (fun _ => Sub.whole rfl) (fun r6 u7 H locs h hw => ?_)
    obtain ⟨S8, J9⟩ := u7
    obtain ⟨hu, h⟩ := h
    replace hu : J = J9 := hu.symm
    subst hu
    rw [hQ]
    exact mreti (w := (wM g q)) (u := (S8, J)) hC hr hlocks hK hw ⟨rfl, h⟩ dX6_pace_26
  refine lv_if_eq (tgt := 20) hx hb dX6_pace_5 (by decide) (fun c16 => ?_) (fun c16 => ?_)
  · replace h := h.1 c16
    exact join5  _ _ _ h hw (lv_sub hl [0] rfl)
  · replace h := h.2 c16
    refine lv_iload_n hx hb dX6_pace_8 rfl (lv_at hl 2 rfl) ?_
    refine lv_i2l (v := a2.toInt64) hx hb dX6_pace_9 rfl ?_
    refine lv_lconst (v := (1 : Int64)) hx hb dX6_pace_10 (by decide) ?_
    refine lv_ldc2 (v := (9 : Int64)) hx hb hown (hts (.constantLong RX6 114 (9)) (List.mem_of_getElem? (i := 1) rfl)) dX6_pace_11 ?_
    refine mcalli (w1 := (fun _ => (wM g q) (S, J))) (wc := fun _ : Unit => ([] : va_W)) (u := ()) (va_runS (As := [.long a2.toInt64, .long (1 : Int64), .long (9 : Int64)]) (rest := []) hC (kX6_in l g  H.size a2.toInt64 (1 : Int64) (9 : Int64) _ h) (va_cwS 3 hts gX6_pace_X6_in rfl rfl rfl (by decide +kernel) ⟨Nat.le_of_ble_eq_true rfl, Nat.le_of_ble_eq_true rfl⟩) (mpre E0_ok hK hE hA hw (Sub1.nil _)) rfl rfl hl.1 rfl (lv_room (Nat.le_of_ble_eq_true rfl)) dX6_pace_14 ⟨Nat.zero_le _, Nat.zero_le _⟩) hA hw (Sub1.nil _) (fun _ => Sub.nil _) (fun r10 u11 H locs h hw => ?_)
    obtain ⟨_, h⟩ := h
    refine lv_if_ne (tgt := 27) hx hb dX6_pace_17 (by decide) (fun c15 => ?_) (fun c15 => ?_)
    · replace h := h.2 c15
      refine lv_aload_n hx hb dX6_pace_27 rfl (lv_at hl 0 rfl) ?_
      refine lv_iload_n hx hb dX6_pace_28 rfl (lv_at hl 1 rfl) ?_
      refine mcalli (w1 := (wM g q)) (va_runV (As := [.int a1]) (rest := []) hC (kX6_paceOf l g  q H.size S J a1 _ h) (cwV 1 hts gX6_pace_X6_paceOf rfl rfl rfl (by decide +kernel) ⟨Nat.le_of_ble_eq_true rfl, Nat.le_of_ble_eq_true rfl⟩) (mpreV E0_ok hK hE hA hw (Sub1.refl _) 0 rfl rfl) rfl rfl hl.1 rfl (lv_room (Nat.le_of_ble_eq_true rfl)) dX6_pace_29 ⟨Nat.zero_le _, Nat.zero_le _⟩) hA hw (Sub1.refl _) (fun _ => Sub.whole rfl) (fun r12 u13 H locs h hw => ?_)
      obtain ⟨hu, h⟩ := h
      replace hu := hu.symm
      subst hu
      refine lv_istore_n (lv' := [(3, .int r12), (0, .ref (q 0)), (1, .int a1), (2, .int a2)]) hx hb dX6_pace_32 rfl hl (by decide) rfl (fun ls hl => ?_)
      refine lv_aload_n hx hb dX6_pace_33 rfl (lv_at hl 1 rfl) ?_
      refine M_mg0 hC hinX6 hK hw (List.mem_of_getElem? (i := 3) rfl) dX6_pace_34 ?_
      refine lv_bipush (v := (44 : Int32)) hx hb dX6_pace_37 (by decide) ?_
      refine lv_iconst (v := (2 : Int32)) hx hb dX6_pace_39 (by decide) ?_
      refine lv_iload_n hx hb dX6_pace_40 rfl (lv_at hl 2 rfl) ?_
      refine lv_imul hx hb dX6_pace_41 ?_
      refine lv_iadd hx hb dX6_pace_42 ?_
      refine lv_iconst (v := (1 : Int32)) hx hb dX6_pace_43 (by decide) ?_
      refine lv_iadd hx hb dX6_pace_44 ?_
      refine lv_iload_n hx hb dX6_pace_45 rfl (lv_at hl 3 rfl) ?_
      obtain ⟨hi, h⟩ := h
      refine M_ms0 hC hK hw hi dX6_pace_46 (fun S14 H locs eS14 hw => ?_)
      replace h := h S14 eS14
      refine lv_iload_n hx hb dX6_pace_47 rfl (lv_at hl 0 rfl) ?_
      rw [hQ]
      exact mreti (w := (wM g q)) (u := (S14, J)) hC hr hlocks hK hw ⟨rfl, h⟩ dX6_pace_48
    · replace h := h.1 c15
      exact join5  _ _ _ h hw (lv_sub hl [0] rfl)
def wX6_as (S : Bun) (J : Lon) (a1 : Int32) (a2 : Int32) (post : Int32 → Bun → Prop) : Prop :=
  wX6_isTeam S J a1 (fun r1 => wjoin (σ := Unit) (fun _ => wX6_finds S J (-1000000001 : Int32) (fun r6 S8 => post r6 S8)) (fun J3 => ((r1 = 0 → J3 ()) ∧ (¬ (r1 = 0) → wX6_in a2.toInt64 (0 : Int64) (5 : Int64) (fun r10 => ((r10 = 0 → J3 ()) ∧ (¬ (r10 = 0) → wX6_kindOf S J a1 (fun r12 => wjoin (σ := Int32) (fun y14 => ((y14 = 0 → wX6_finds S J (-1000000003 : Int32) (fun r18 S20 => post r18 S20)) ∧ (¬ (y14 = 0) → wX6_dear S J a1 (fun r22 => post r22 S)))) (fun J15 => ((a2 = 0 → J15 (1 : Int32)) ∧ (¬ (a2 = 0) → ((r12 = a2 → J15 (1 : Int32)) ∧ (¬ (r12 = a2) → wjoin (σ := Unit) (fun _ => ((a2 = (3 : Int32) → ((r12 = (5 : Int32) → J15 (1 : Int32)) ∧ (¬ (r12 = (5 : Int32)) → J15 (0 : Int32)))) ∧ (¬ (a2 = (3 : Int32)) → J15 (0 : Int32)))) (fun J25 => ((a2 = (1 : Int32) → ((r12 = (4 : Int32) → J15 (1 : Int32)) ∧ (¬ (r12 = (4 : Int32)) → J25 ()))) ∧ (¬ (a2 = (1 : Int32)) → J25 ()))))))))))))))))
set_option maxRecDepth 100000 in
set_option maxHeartbeats 4000000 in
theorem kX6_as (l : Launch) (g : Gl)  (q : Nat → Nat) (sz : Nat) (S : Bun) (J : Lon) (a1 : Int32) (a2 : Int32) (post : Int32 → Bun → Prop) (h : wX6_as S J a1 a2 post) : Met l yX6_as wsX6_as (rmm 2 46) (wPc g E0 ((wM g q) (S, J)) sz [.ref (q 0), .int a1, .int a2]) (va_Qi (fun (r : Int32) (u : Bun × Lon) => u.2 = J ∧ post r u.1) (wB g (wM g q) (va_A ((wM g q) (S, J)) sz)) (va_A ((wM g q) (S, J)) sz)) 0 0 (va_A ((wM g q) (S, J)) sz) := by
  refine mstart (Qf := fun A => va_Qi (fun (r : Int32) (u : Bun × Lon) => u.2 = J ∧ post r u.1) (wB g (wM g q) A) A) (by decide) rfl (Nat.le_of_ble_eq_true rfl) ?_
  intro p e s m args below meth c A Q H locs ls hC hr hlocks hname hQ hA hK hE hw hl
  have hC : CallFix p m c cX6_as 5 s args wsX6_as RX6 := hC
  obtain ⟨hx, hb, -, hown, hts⟩ := id hC
  have hl : lv_has ls 5 [(0, .ref (q 0)), (1, .int a1), (2, .int a2)] := hl
  rw [wX6_as] at h
  refine lv_aload_n hx hb dX6_as_0 rfl (lv_at hl 0 rfl) ?_
  refine lv_iload_n hx hb dX6_as_1 rfl (lv_at hl 1 rfl) ?_
  refine mcalli (w1 := (wM g q)) (va_runV (As := [.int a1]) (rest := []) hC (kX6_isTeam l g  q H.size S J a1 _ h) (cwV 1 hts gX6_as_X6_isTeam rfl rfl rfl (by decide +kernel) ⟨Nat.le_of_ble_eq_true rfl, Nat.le_of_ble_eq_true rfl⟩) (mpreV E0_ok hK hE hA hw (Sub1.refl _) 0 rfl rfl) rfl rfl hl.1 rfl (lv_room (Nat.le_of_ble_eq_true rfl)) dX6_as_2 ⟨Nat.zero_le _, Nat.zero_le _⟩) hA hw (Sub1.refl _) (fun _ => Sub.whole rfl) (fun r1 u2 H locs h hw => ?_)
  obtain ⟨hu, h⟩ := h
  replace hu := hu.symm
  subst hu
  obtain ⟨J3, hJ4, h⟩ := h
  have join5 : ∀  (H : Heap) (locs : List Loc) (ls : Array Slot), J3 () → Wd g.1 A s.heap ((wM g q) (S, J)) H locs → lv_has ls 5 [(0, .ref (q 0))] → W p l e (rmm 2 46) s m args below meth c H locs 0 0 Q (F0 m 20 ls []) := by
    intro  H locs ls h hw hl
    replace h := hJ4 () h
    refine lv_aload_n hx hb dX6_as_20 rfl (lv_at hl 0 rfl) ?_
    refine lv_ldc (v := (-1000000001 : Int32)) hx hb hown (hts (.constant RX6 68 (-1000000001)) (List.mem_of_getElem? (i := 2) rfl)) dX6_as_21 ?_
    refine mcalli (w1 := (wM g q)) (va_runV (As := [.int (-1000000001 : Int32)]) (rest := []) hC (kX6_finds l g  q H.size S J (-1000000001 : Int32) _ h) (cwV 1 hts gX6_as_X6_finds rfl rfl rfl (by decide +kernel) ⟨Nat.le_of_ble_eq_true rfl, Nat.le_of_ble_eq_true rfl⟩) (mpreV E0_ok hK hE hA hw (Sub1.refl _) 0 rfl rfl) rfl rfl hl.1 rfl (lv_room (Nat.le_of_ble_eq_true rfl)) dX6_as_23 ⟨Nat.zero_le _, Nat.zero_le _⟩) hA hw (Sub1.refl _) (fun _ => Sub.whole rfl) (fun r6 u7 H locs h hw => ?_)
    obtain ⟨S8, J9⟩ := u7
    obtain ⟨hu, h⟩ := h
    replace hu : J = J9 := hu.symm
    subst hu
    rw [hQ]
    exact mreti (w := (wM g q)) (u := (S8, J)) hC hr hlocks hK hw ⟨rfl, h⟩ dX6_as_26
  refine lv_if_eq (tgt := 20) hx hb dX6_as_5 (by decide) (fun c35 => ?_) (fun c35 => ?_)
  · replace h := h.1 c35
    exact join5  _ _ _ h hw (lv_sub hl [0] rfl)
  · replace h := h.2 c35
    refine lv_iload_n hx hb dX6_as_8 rfl (lv_at hl 2 rfl) ?_
    refine lv_i2l (v := a2.toInt64) hx hb dX6_as_9 rfl ?_
    refine lv_lconst (v := (0 : Int64)) hx hb dX6_as_10 (by decide) ?_
    refine lv_ldc2 (v := (5 : Int64)) hx hb hown (hts (.constantLong RX6 106 (5)) (List.mem_of_getElem? (i := 1) rfl)) dX6_as_11 ?_
    refine mcalli (w1 := (fun _ => (wM g q) (S, J))) (wc := fun _ : Unit => ([] : va_W)) (u := ()) (va_runS (As := [.long a2.toInt64, .long (0 : Int64), .long (5 : Int64)]) (rest := []) hC (kX6_in l g  H.size a2.toInt64 (0 : Int64) (5 : Int64) _ h) (va_cwS 3 hts gX6_as_X6_in rfl rfl rfl (by decide +kernel) ⟨Nat.le_of_ble_eq_true rfl, Nat.le_of_ble_eq_true rfl⟩) (mpre E0_ok hK hE hA hw (Sub1.nil _)) rfl rfl hl.1 rfl (lv_room (Nat.le_of_ble_eq_true rfl)) dX6_as_14 ⟨Nat.zero_le _, Nat.zero_le _⟩) hA hw (Sub1.nil _) (fun _ => Sub.nil _) (fun r10 u11 H locs h hw => ?_)
    obtain ⟨_, h⟩ := h
    refine lv_if_ne (tgt := 27) hx hb dX6_as_17 (by decide) (fun c34 => ?_) (fun c34 => ?_)
    · replace h := h.2 c34
      refine lv_aload_n hx hb dX6_as_27 rfl (lv_at hl 0 rfl) ?_
      refine lv_iload_n hx hb dX6_as_28 rfl (lv_at hl 1 rfl) ?_
      refine mcalli (w1 := (wM g q)) (va_runV (As := [.int a1]) (rest := []) hC (kX6_kindOf l g  q H.size S J a1 _ h) (cwV 1 hts gX6_as_X6_kindOf rfl rfl rfl (by decide +kernel) ⟨Nat.le_of_ble_eq_true rfl, Nat.le_of_ble_eq_true rfl⟩) (mpreV E0_ok hK hE hA hw (Sub1.refl _) 0 rfl rfl) rfl rfl hl.1 rfl (lv_room (Nat.le_of_ble_eq_true rfl)) dX6_as_29 ⟨Nat.zero_le _, Nat.zero_le _⟩) hA hw (Sub1.refl _) (fun _ => Sub.whole rfl) (fun r12 u13 H locs h hw => ?_)
      obtain ⟨hu, h⟩ := h
      replace hu := hu.symm
      subst hu
      refine lv_istore_n (lv' := [(3, .int r12), (0, .ref (q 0)), (1, .int a1), (2, .int a2)]) hx hb dX6_as_32 rfl hl (by decide) rfl (fun ls hl => ?_)
      refine lv_iload_n hx hb dX6_as_33 rfl (lv_at hl 3 rfl) ?_
      obtain ⟨J15, hJ16, h⟩ := h
      have join17 : ∀ (y14 : Int32) (H : Heap) (locs : List Loc) (ls : Array Slot), J15 y14 → Wd g.1 A s.heap ((wM g q) (S, J)) H locs → lv_has ls 5 [(0, .ref (q 0)), (1, .int a1)] → W p l e (rmm 2 46) s m args below meth c H locs 0 0 Q (F0 m 67 ls [.int y14]) := by
        intro y14 H locs ls h hw hl
        replace h := hJ16 y14 h
        refine lv_istore (lv' := [(4, .int y14), (0, .ref (q 0)), (1, .int a1)]) hx hb dX6_as_67 hl (by decide) rfl (fun ls hl => ?_)
        refine lv_iload hx hb dX6_as_69 (lv_at hl 0 rfl) ?_
        refine lv_if_eq (tgt := 82) hx hb dX6_as_71 (by decide) (fun c24 => ?_) (fun c24 => ?_)
        · replace h := h.1 c24
          refine lv_aload_n hx hb dX6_as_82 rfl (lv_at hl 1 rfl) ?_
          refine lv_ldc (v := (-1000000003 : Int32)) hx hb hown (hts (.constant RX6 133 (-1000000003)) (List.mem_of_getElem? (i := 3) rfl)) dX6_as_83 ?_
          refine mcalli (w1 := (wM g q)) (va_runV (As := [.int (-1000000003 : Int32)]) (rest := []) hC (kX6_finds l g  q H.size S J (-1000000003 : Int32) _ h) (cwV 1 hts gX6_as_X6_finds rfl rfl rfl (by decide +kernel) ⟨Nat.le_of_ble_eq_true rfl, Nat.le_of_ble_eq_true rfl⟩) (mpreV E0_ok hK hE hA hw (Sub1.refl _) 0 rfl rfl) rfl rfl hl.1 rfl (lv_room (Nat.le_of_ble_eq_true rfl)) dX6_as_85 ⟨Nat.zero_le _, Nat.zero_le _⟩) hA hw (Sub1.refl _) (fun _ => Sub.whole rfl) (fun r18 u19 H locs h hw => ?_)
          obtain ⟨S20, J21⟩ := u19
          obtain ⟨hu, h⟩ := h
          replace hu : J = J21 := hu.symm
          subst hu
          rw [hQ]
          exact mreti (w := (wM g q)) (u := (S20, J)) hC hr hlocks hK hw ⟨rfl, h⟩ dX6_as_88
        · replace h := h.2 c24
          refine lv_aload_n hx hb dX6_as_74 rfl (lv_at hl 1 rfl) ?_
          refine lv_iload_n hx hb dX6_as_75 rfl (lv_at hl 2 rfl) ?_
          refine mcalli (w1 := (wM g q)) (va_runV (As := [.int a1]) (rest := []) hC (kX6_dear l g  q H.size S J a1 _ h) (cwV 1 hts gX6_as_X6_dear rfl rfl rfl (by decide +kernel) ⟨Nat.le_of_ble_eq_true rfl, Nat.le_of_ble_eq_true rfl⟩) (mpreV E0_ok hK hE hA hw (Sub1.refl _) 0 rfl rfl) rfl rfl hl.1 rfl (lv_room (Nat.le_of_ble_eq_true rfl)) dX6_as_76 ⟨Nat.zero_le _, Nat.zero_le _⟩) hA hw (Sub1.refl _) (fun _ => Sub.whole rfl) (fun r22 u23 H locs h hw => ?_)
          obtain ⟨hu, h⟩ := h
          replace hu := hu.symm
          subst hu
          refine lv_goto (tgt := 88) hx hb dX6_as_79 (by decide) ?_
          rw [hQ]
          exact mreti (w := (wM g q)) (u := (S, J)) hC hr hlocks hK hw ⟨rfl, h⟩ dX6_as_88
      refine lv_if_eq (tgt := 62) hx hb dX6_as_34 (by decide) (fun c33 => ?_) (fun c33 => ?_)
      · replace h := h.1 c33
        refine lv_iconst (v := (1 : Int32)) hx hb dX6_as_62 (by decide) ?_
        refine lv_goto (tgt := 67) hx hb dX6_as_63 (by decide) ?_
        exact join17 (1 : Int32) _ _ _ h hw (lv_sub hl [1, 2] rfl)
      · replace h := h.2 c33
        refine lv_iload_n hx hb dX6_as_37 rfl (lv_at hl 0 rfl) ?_
        refine lv_iload_n hx hb dX6_as_38 rfl (lv_at hl 3 rfl) ?_
        refine lv_icmp_eq (tgt := 62) hx hb dX6_as_39 (by decide) (fun c32 => ?_) (fun c32 => ?_)
        · replace h := h.1 c32
          refine lv_iconst (v := (1 : Int32)) hx hb dX6_as_62 (by decide) ?_
          refine lv_goto (tgt := 67) hx hb dX6_as_63 (by decide) ?_
          exact join17 (1 : Int32) _ _ _ h hw (lv_sub hl [1, 2] rfl)
        · replace h := h.2 c32
          refine lv_iload_n hx hb dX6_as_42 rfl (lv_at hl 3 rfl) ?_
          refine lv_iconst (v := (1 : Int32)) hx hb dX6_as_43 (by decide) ?_
          obtain ⟨J25, hJ26, h⟩ := h
          have join27 : ∀  (H : Heap) (locs : List Loc) (ls : Array Slot), J25 () → Wd g.1 A s.heap ((wM g q) (S, J)) H locs → lv_has ls 5 [(0, .ref (q 0)), (1, .int a1), (2, .int a2), (3, .int r12)] → W p l e (rmm 2 46) s m args below meth c H locs 0 0 Q (F0 m 52 ls []) := by
            intro  H locs ls h hw hl
            replace h := hJ26 () h
            refine lv_iload_n hx hb dX6_as_52 rfl (lv_at hl 2 rfl) ?_
            refine lv_iconst (v := (3 : Int32)) hx hb dX6_as_53 (by decide) ?_
            refine lv_icmp_ne (tgt := 66) hx hb dX6_as_54 (by decide) (fun c29 => ?_) (fun c29 => ?_)
            · replace h := h.2 c29
              refine lv_iconst (v := (0 : Int32)) hx hb dX6_as_66 (by decide) ?_
              exact join17 (0 : Int32) _ _ _ h hw (lv_sub hl [0, 1] rfl)
            · replace h := h.1 c29
              refine lv_iload_n hx hb dX6_as_57 rfl (lv_at hl 3 rfl) ?_
              refine lv_iconst (v := (5 : Int32)) hx hb dX6_as_58 (by decide) ?_
              refine lv_icmp_ne (tgt := 66) hx hb dX6_as_59 (by decide) (fun c28 => ?_) (fun c28 => ?_)
              · replace h := h.2 c28
                refine lv_iconst (v := (0 : Int32)) hx hb dX6_as_66 (by decide) ?_
                exact join17 (0 : Int32) _ _ _ h hw (lv_sub hl [0, 1] rfl)
              · replace h := h.1 c28
                refine lv_iconst (v := (1 : Int32)) hx hb dX6_as_62 (by decide) ?_
                refine lv_goto (tgt := 67) hx hb dX6_as_63 (by decide) ?_
                exact join17 (1 : Int32) _ _ _ h hw (lv_sub hl [0, 1] rfl)
          refine lv_icmp_ne (tgt := 52) hx hb dX6_as_44 (by decide) (fun c31 => ?_) (fun c31 => ?_)
          · replace h := h.2 c31
            exact join27  _ _ _ h hw (lv_sub hl [1, 2, 3, 0] rfl)
          · replace h := h.1 c31
            refine lv_iload_n hx hb dX6_as_47 rfl (lv_at hl 0 rfl) ?_
            refine lv_iconst (v := (4 : Int32)) hx hb dX6_as_48 (by decide) ?_
            refine lv_icmp_eq (tgt := 62) hx hb dX6_as_49 (by decide) (fun c30 => ?_) (fun c30 => ?_)
            · replace h := h.1 c30
              refine lv_iconst (v := (1 : Int32)) hx hb dX6_as_62 (by decide) ?_
              refine lv_goto (tgt := 67) hx hb dX6_as_63 (by decide) ?_
              exact join17 (1 : Int32) _ _ _ h hw (lv_sub hl [1, 2] rfl)
            · replace h := h.2 c30
              exact join27  _ _ _ h hw (lv_sub hl [1, 2, 3, 0] rfl)
    · replace h := h.1 c34
      exact join5  _ _ _ h hw (lv_sub hl [0] rfl)
def wX6_beside  (a1 : Int32) (a2 : Int32) (post : Int32 → Prop) : Prop :=
  ∀ x1 : Int32, x1 = a2 → ((x1 = (0 : Int32) → (((4 : Int32) ≤ a1 → post (a1 - (4 : Int32))) ∧ (¬ ((4 : Int32) ≤ a1) → post (-1 : Int32)))) ∧ (x1 = (1 : Int32) → (((a1 - a1 / (4 : Int32) * (4 : Int32)) = (3 : Int32) → post (-1 : Int32)) ∧ (¬ ((a1 - a1 / (4 : Int32) * (4 : Int32)) = (3 : Int32)) → post (a1 + (1 : Int32))))) ∧ (x1 = (2 : Int32) → ((a1 ≤ (11 : Int32) → post (a1 + (4 : Int32))) ∧ (¬ (a1 ≤ (11 : Int32)) → post (-1 : Int32)))) ∧ ((x1.toInt < 0 ∨ 2 < x1.toInt) → (((a1 - a1 / (4 : Int32) * (4 : Int32)) = 0 → post (-1 : Int32)) ∧ (¬ ((a1 - a1 / (4 : Int32) * (4 : Int32)) = 0) → post (a1 - (1 : Int32))))))
set_option maxRecDepth 100000 in
set_option maxHeartbeats 4000000 in
theorem kX6_beside (l : Launch) (g : Gl)   (sz : Nat)  (a1 : Int32) (a2 : Int32) (post : Int32 → Prop) (h : wX6_beside  a1 a2 post) : Met l yX6_beside wsX6_beside (rmm 0 0) (wPc g E0 (([] : va_W)) sz [.int a1, .int a2]) (va_Qi (fun (r : Int32) (u : Unit) => u = () ∧ post r) (wB g (fun _ : Unit => ([] : va_W)) (va_A (([] : va_W)) sz)) (va_A (([] : va_W)) sz)) 0 0 (va_A (([] : va_W)) sz) := by
  refine mstart (Qf := fun A => va_Qi (fun (r : Int32) (u : Unit) => u = () ∧ post r) (wB g (fun _ : Unit => ([] : va_W)) A) A) (by decide) rfl (Nat.le_of_ble_eq_true rfl) ?_
  intro p e s m args below meth c A Q H locs ls hC hr hlocks hname hQ hA hK hE hw hl
  have hC : CallFix p m c cX6_beside 2 s args wsX6_beside RX6 := hC
  obtain ⟨hx, hb, -, hown, hts⟩ := id hC
  have hl : lv_has ls 2 [(0, .int a1), (1, .int a2)] := hl
  rw [wX6_beside] at h
  refine lv_iload_n hx hb dX6_beside_0 rfl (lv_at hl 1 rfl) ?_
  refine lv_topi (fun x1 ex1 => ?_)
  replace h := h x1 ex1
  rcases sw0_2 x1 with c2 | c2 | c2 | c2
  · replace h := h.1 c2
    rw [c2]
    refine lv_tableIn (tgt := 28) (off := 27) hx hb dX6_beside_1 (by decide) (by decide) rfl (by decide) ?_
    refine lv_iload_n hx hb dX6_beside_28 rfl (lv_at hl 0 rfl) ?_
    refine lv_iconst (v := (4 : Int32)) hx hb dX6_beside_29 (by decide) ?_
    refine lv_icmp_ge (tgt := 37) hx hb dX6_beside_30 (by decide) (fun c3 => ?_) (fun c3 => ?_)
    · replace h := h.1 c3
      refine lv_iload_n hx hb dX6_beside_37 rfl (lv_at hl 0 rfl) ?_
      refine lv_iconst (v := (4 : Int32)) hx hb dX6_beside_38 (by decide) ?_
      refine lv_isub hx hb dX6_beside_39 ?_
      rw [hQ]
      exact mreti (w := (fun _ : Unit => ([] : va_W))) (u := ()) hC hr hlocks hK hw ⟨rfl, h⟩ dX6_beside_40
    · replace h := h.2 c3
      refine lv_iconst (v := (-1 : Int32)) hx hb dX6_beside_33 (by decide) ?_
      refine lv_goto (tgt := 40) hx hb dX6_beside_34 (by decide) ?_
      rw [hQ]
      exact mreti (w := (fun _ : Unit => ([] : va_W))) (u := ()) hC hr hlocks hK hw ⟨rfl, h⟩ dX6_beside_40
  · replace h := h.2.1 c2
    rw [c2]
    refine lv_tableIn (tgt := 41) (off := 40) hx hb dX6_beside_1 (by decide) (by decide) rfl (by decide) ?_
    refine lv_iload_n hx hb dX6_beside_41 rfl (lv_at hl 0 rfl) ?_
    refine lv_iconst (v := (4 : Int32)) hx hb dX6_beside_42 (by decide) ?_
    refine lv_irem hx hb dX6_beside_43 (by decide) ?_
    refine lv_iconst (v := (3 : Int32)) hx hb dX6_beside_44 (by decide) ?_
    refine lv_icmp_ne (tgt := 52) hx hb dX6_beside_45 (by decide) (fun c4 => ?_) (fun c4 => ?_)
    · replace h := h.2 c4
      refine lv_iload_n hx hb dX6_beside_52 rfl (lv_at hl 0 rfl) ?_
      refine lv_iconst (v := (1 : Int32)) hx hb dX6_beside_53 (by decide) ?_
      refine lv_iadd hx hb dX6_beside_54 ?_
      rw [hQ]
      exact mreti (w := (fun _ : Unit => ([] : va_W))) (u := ()) hC hr hlocks hK hw ⟨rfl, h⟩ dX6_beside_55
    · replace h := h.1 c4
      refine lv_iconst (v := (-1 : Int32)) hx hb dX6_beside_48 (by decide) ?_
      refine lv_goto (tgt := 55) hx hb dX6_beside_49 (by decide) ?_
      rw [hQ]
      exact mreti (w := (fun _ : Unit => ([] : va_W))) (u := ()) hC hr hlocks hK hw ⟨rfl, h⟩ dX6_beside_55
  · replace h := h.2.2.1 c2
    rw [c2]
    refine lv_tableIn (tgt := 56) (off := 55) hx hb dX6_beside_1 (by decide) (by decide) rfl (by decide) ?_
    refine lv_iload_n hx hb dX6_beside_56 rfl (lv_at hl 0 rfl) ?_
    refine lv_bipush (v := (11 : Int32)) hx hb dX6_beside_57 (by decide) ?_
    refine lv_icmp_le (tgt := 66) hx hb dX6_beside_59 (by decide) (fun c5 => ?_) (fun c5 => ?_)
    · replace h := h.1 c5
      refine lv_iload_n hx hb dX6_beside_66 rfl (lv_at hl 0 rfl) ?_
      refine lv_iconst (v := (4 : Int32)) hx hb dX6_beside_67 (by decide) ?_
      refine lv_iadd hx hb dX6_beside_68 ?_
      rw [hQ]
      exact mreti (w := (fun _ : Unit => ([] : va_W))) (u := ()) hC hr hlocks hK hw ⟨rfl, h⟩ dX6_beside_69
    · replace h := h.2 c5
      refine lv_iconst (v := (-1 : Int32)) hx hb dX6_beside_62 (by decide) ?_
      refine lv_goto (tgt := 69) hx hb dX6_beside_63 (by decide) ?_
      rw [hQ]
      exact mreti (w := (fun _ : Unit => ([] : va_W))) (u := ()) hC hr hlocks hK hw ⟨rfl, h⟩ dX6_beside_69
  · replace h := h.2.2.2 c2
    refine lv_tableOut (tgt := 70) hx hb dX6_beside_1 c2 (by decide) ?_
    refine lv_iload_n hx hb dX6_beside_70 rfl (lv_at hl 0 rfl) ?_
    refine lv_iconst (v := (4 : Int32)) hx hb dX6_beside_71 (by decide) ?_
    refine lv_irem hx hb dX6_beside_72 (by decide) ?_
    refine lv_if_ne (tgt := 80) hx hb dX6_beside_73 (by decide) (fun c6 => ?_) (fun c6 => ?_)
    · replace h := h.2 c6
      refine lv_iload_n hx hb dX6_beside_80 rfl (lv_at hl 0 rfl) ?_
      refine lv_iconst (v := (1 : Int32)) hx hb dX6_beside_81 (by decide) ?_
      refine lv_isub hx hb dX6_beside_82 ?_
      rw [hQ]
      exact mreti (w := (fun _ : Unit => ([] : va_W))) (u := ()) hC hr hlocks hK hw ⟨rfl, h⟩ dX6_beside_83
    · replace h := h.1 c6
      refine lv_iconst (v := (-1 : Int32)) hx hb dX6_beside_76 (by decide) ?_
      refine lv_goto (tgt := 83) hx hb dX6_beside_77 (by decide) ?_
      rw [hQ]
      exact mreti (w := (fun _ : Unit => ([] : va_W))) (u := ()) hC hr hlocks hK hw ⟨rfl, h⟩ dX6_beside_83
def wX6_isByTree (S : Bun) (J : Lon) (a1 : Int32) (a2 : Int32) (post : Int32 → Prop) : Prop :=
  wloop (σ := Int32 × Int32) (fun K3 z => match z with | (x1, x2) => (((4 : Int32) ≤ x2 → zb x1 ∧ post x1) ∧ (¬ ((4 : Int32) ≤ x2) → wX6_beside a2 x2 (fun r9 => ((x1 = 0 → ((r9 < 0 → ∀ x13 : Int32, x13 = x2 + (1 : Int32) → K3 ((0 : Int32), x13)) ∧ (¬ (r9 < 0) → wX6_its S J a1 (1 : Int32) (fun r15 => wX6_has r15 r9 (fun r17 => ((r17 = 0 → ∀ x19 : Int32, x19 = x2 + (1 : Int32) → K3 ((0 : Int32), x19)) ∧ (¬ (r17 = 0) → ∀ x21 : Int32, x21 = x2 + (1 : Int32) → K3 ((1 : Int32), x21)))))))) ∧ (¬ (x1 = 0) → ∀ x11 : Int32, x11 = x2 + (1 : Int32) → K3 ((1 : Int32), x11))))))) ((0 : Int32), (0 : Int32))
set_option maxRecDepth 100000 in
set_option maxHeartbeats 4000000 in
theorem kX6_isByTree (l : Launch) (g : Gl)  (q : Nat → Nat) (sz : Nat) (S : Bun) (J : Lon) (a1 : Int32) (a2 : Int32) (post : Int32 → Prop) (h : wX6_isByTree S J a1 a2 post) : Met l yX6_isByTree wsX6_isByTree (rmm 1 22) (wPc g E0 ((wM g q) (S, J)) sz [.ref (q 0), .int a1, .int a2]) (va_Qi (fun (r : Int32) (u : Bun × Lon) => u = (S, J) ∧ post r) (wB g (wM g q) (va_A ((wM g q) (S, J)) sz)) (va_A ((wM g q) (S, J)) sz)) 0 0 (va_A ((wM g q) (S, J)) sz) := by
  refine mstart (Qf := fun A => va_Qi (fun (r : Int32) (u : Bun × Lon) => u = (S, J) ∧ post r) (wB g (wM g q) A) A) (by decide) rfl (Nat.le_of_ble_eq_true rfl) ?_
  intro p e s m args below meth c A Q H locs ls hC hr hlocks hname hQ hA hK hE hw hl
  have hC : CallFix p m c cX6_isByTree 6 s args wsX6_isByTree RX6 := hC
  obtain ⟨hx, hb, -, hown, hts⟩ := id hC
  have hl : lv_has ls 6 [(0, .ref (q 0)), (1, .int a1), (2, .int a2)] := hl
  rw [wX6_isByTree] at h
  refine lv_iconst (v := (0 : Int32)) hx hb dX6_isByTree_0 (by decide) ?_
  refine lv_istore_n (lv' := [(3, .int (0 : Int32)), (0, .ref (q 0)), (1, .int a1), (2, .int a2)]) hx hb dX6_isByTree_1 rfl hl (by decide) rfl (fun ls hl => ?_)
  refine lv_iconst (v := (0 : Int32)) hx hb dX6_isByTree_2 (by decide) ?_
  refine lv_istore (lv' := [(4, .int (0 : Int32)), (3, .int (0 : Int32)), (0, .ref (q 0)), (1, .int a1), (2, .int a2)]) hx hb dX6_isByTree_3 hl (by decide) rfl (fun ls hl => ?_)
  refine h (fun z => match z with | (x1, x2) => ∀ (H : Heap) (locs : List Loc) (ls : Array Slot), Wd g.1 A s.heap ((wM g q) (S, J)) H locs → lv_has ls 6 [(0, .ref (q 0)), (1, .int a1), (2, .int a2), (3, .int x1), (4, .int x2)] → W p l e (rmm 1 22) s m args below meth c H locs 0 0 Q (F0 m 5 ls [])) ?_ _ _ _ hw (lv_sub hl [2, 3, 4, 1, 0] rfl)
  clear h hw hl
  rintro ⟨x1, x2⟩ h H locs ls hw hl
  refine lv_iload hx hb dX6_isByTree_5 (lv_at hl 4 rfl) ?_
  refine lv_iconst (v := (4 : Int32)) hx hb dX6_isByTree_7 (by decide) ?_
  refine lv_icmp_ge (tgt := 54) hx hb dX6_isByTree_8 (by decide) (fun c26 => ?_) (fun c26 => ?_)
  · replace h := h.1 c26
    refine lv_iload_n hx hb dX6_isByTree_54 rfl (lv_at hl 3 rfl) ?_
    obtain ⟨hz, h⟩ := h
    rw [hQ]
    exact mretz (w := (wM g q)) (u := (S, J)) hC hr hlocks hK hw hz ⟨rfl, h⟩ dX6_isByTree_55
  · replace h := h.2 c26
    refine lv_iload_n hx hb dX6_isByTree_11 rfl (lv_at hl 2 rfl) ?_
    refine lv_iload hx hb dX6_isByTree_12 (lv_at hl 4 rfl) ?_
    refine mcalli (w1 := (fun _ => (wM g q) (S, J))) (wc := fun _ : Unit => ([] : va_W)) (u := ()) (va_runS (As := [.int a2, .int x2]) (rest := []) hC (kX6_beside l g  H.size a2 x2 _ h) (va_cwS 2 hts gX6_isByTree_X6_beside rfl rfl rfl (by decide +kernel) ⟨Nat.le_of_ble_eq_true rfl, Nat.le_of_ble_eq_true rfl⟩) (mpre E0_ok hK hE hA hw (Sub1.nil _)) rfl rfl hl.1 rfl (lv_room (Nat.le_of_ble_eq_true rfl)) dX6_isByTree_14 ⟨Nat.zero_le _, Nat.zero_le _⟩) hA hw (Sub1.nil _) (fun _ => Sub.nil _) (fun r9 u10 H locs h hw => ?_)
    obtain ⟨_, h⟩ := h
    refine lv_istore (lv' := [(5, .int r9), (0, .ref (q 0)), (1, .int a1), (2, .int a2), (3, .int x1), (4, .int x2)]) hx hb dX6_isByTree_17 hl (by decide) rfl (fun ls hl => ?_)
    refine lv_iload_n hx hb dX6_isByTree_19 rfl (lv_at hl 4 rfl) ?_
    refine lv_if_ne (tgt := 42) hx hb dX6_isByTree_20 (by decide) (fun c25 => ?_) (fun c25 => ?_)
    · replace h := h.2 c25
      refine lv_iconst (v := (1 : Int32)) hx hb dX6_isByTree_42 (by decide) ?_
      refine lv_goto (tgt := 47) hx hb dX6_isByTree_43 (by decide) ?_
      refine lv_istore_n (lv' := [(3, .int (1 : Int32)), (5, .int r9), (0, .ref (q 0)), (1, .int a1), (2, .int a2), (4, .int x2)]) hx hb dX6_isByTree_47 rfl hl (by decide) rfl (fun ls hl => ?_)
      obtain ⟨x11, ex11⟩ : ∃ y : Int32, y = x2 + (1 : Int32) := ⟨_, rfl⟩
      refine lv_iinc (v := x11) (lv' := [(4, .int x11), (3, .int (1 : Int32)), (5, .int r9), (0, .ref (q 0)), (1, .int a1), (2, .int a2)]) hx hb dX6_isByTree_48 hl (k := 5) rfl (by rw [ex11]; rfl) (by decide) rfl (fun ls hl => ?_)
      replace h := h x11 ex11
      refine lv_goto (tgt := 5) hx hb dX6_isByTree_51 (by decide) ?_
      exact h _ _ _ hw (lv_sub hl [3, 4, 5, 1, 0] rfl)
    · replace h := h.1 c25
      refine lv_iload hx hb dX6_isByTree_23 (lv_at hl 0 rfl) ?_
      refine lv_if_lt (tgt := 46) hx hb dX6_isByTree_25 (by decide) (fun c24 => ?_) (fun c24 => ?_)
      · replace h := h.1 c24
        refine lv_iconst (v := (0 : Int32)) hx hb dX6_isByTree_46 (by decide) ?_
        refine lv_istore_n (lv' := [(3, .int (0 : Int32)), (5, .int r9), (0, .ref (q 0)), (1, .int a1), (2, .int a2), (4, .int x2)]) hx hb dX6_isByTree_47 rfl hl (by decide) rfl (fun ls hl => ?_)
        obtain ⟨x13, ex13⟩ : ∃ y : Int32, y = x2 + (1 : Int32) := ⟨_, rfl⟩
        refine lv_iinc (v := x13) (lv' := [(4, .int x13), (3, .int (0 : Int32)), (5, .int r9), (0, .ref (q 0)), (1, .int a1), (2, .int a2)]) hx hb dX6_isByTree_48 hl (k := 5) rfl (by rw [ex13]; rfl) (by decide) rfl (fun ls hl => ?_)
        replace h := h x13 ex13
        refine lv_goto (tgt := 5) hx hb dX6_isByTree_51 (by decide) ?_
        exact h _ _ _ hw (lv_sub hl [3, 4, 5, 1, 0] rfl)
      · replace h := h.2 c24
        refine lv_aload_n hx hb dX6_isByTree_28 rfl (lv_at hl 1 rfl) ?_
        refine lv_iload_n hx hb dX6_isByTree_29 rfl (lv_at hl 2 rfl) ?_
        refine lv_iconst (v := (1 : Int32)) hx hb dX6_isByTree_30 (by decide) ?_
        refine mcalli (w1 := (wM g q)) (va_runV (As := [.int a1, .int (1 : Int32)]) (rest := []) hC (kX6_its l g  q H.size S J a1 (1 : Int32) _ h) (cwV 2 hts gX6_isByTree_X6_its rfl rfl rfl (by decide +kernel) ⟨Nat.le_of_ble_eq_true rfl, Nat.le_of_ble_eq_true rfl⟩) (mpreV E0_ok hK hE hA hw (Sub1.refl _) 0 rfl rfl) rfl rfl hl.1 rfl (lv_room (Nat.le_of_ble_eq_true rfl)) dX6_isByTree_31 ⟨Nat.zero_le _, Nat.zero_le _⟩) hA hw (Sub1.refl _) (fun _ => Sub.whole rfl) (fun r15 u16 H locs h hw => ?_)
        obtain ⟨hu, h⟩ := h
        replace hu := hu.symm
        subst hu
        refine lv_iload hx hb dX6_isByTree_34 (lv_at hl 0 rfl) ?_
        refine mcalli (w1 := (fun _ => (wM g q) (S, J))) (wc := fun _ : Unit => ([] : va_W)) (u := ()) (va_runS (As := [.int r15, .int r9]) (rest := []) hC (kX6_has l g  H.size r15 r9 _ h) (va_cwS 2 hts gX6_isByTree_X6_has rfl rfl rfl (by decide +kernel) ⟨Nat.le_of_ble_eq_true rfl, Nat.le_of_ble_eq_true rfl⟩) (mpre E0_ok hK hE hA hw (Sub1.nil _)) rfl rfl hl.1 rfl (lv_room (Nat.le_of_ble_eq_true rfl)) dX6_isByTree_36 ⟨Nat.zero_le _, Nat.zero_le _⟩) hA hw (Sub1.nil _) (fun _ => Sub.nil _) (fun r17 u18 H locs h hw => ?_)
        obtain ⟨_, h⟩ := h
        refine lv_if_eq (tgt := 46) hx hb dX6_isByTree_39 (by decide) (fun c23 => ?_) (fun c23 => ?_)
        · replace h := h.1 c23
          refine lv_iconst (v := (0 : Int32)) hx hb dX6_isByTree_46 (by decide) ?_
          refine lv_istore_n (lv' := [(3, .int (0 : Int32)), (5, .int r9), (0, .ref (q 0)), (1, .int a1), (2, .int a2), (4, .int x2)]) hx hb dX6_isByTree_47 rfl hl (by decide) rfl (fun ls hl => ?_)
          obtain ⟨x19, ex19⟩ : ∃ y : Int32, y = x2 + (1 : Int32) := ⟨_, rfl⟩
          refine lv_iinc (v := x19) (lv' := [(4, .int x19), (3, .int (0 : Int32)), (5, .int r9), (0, .ref (q 0)), (1, .int a1), (2, .int a2)]) hx hb dX6_isByTree_48 hl (k := 5) rfl (by rw [ex19]; rfl) (by decide) rfl (fun ls hl => ?_)
          replace h := h x19 ex19
          refine lv_goto (tgt := 5) hx hb dX6_isByTree_51 (by decide) ?_
          exact h _ _ _ hw (lv_sub hl [3, 4, 5, 1, 0] rfl)
        · replace h := h.2 c23
          refine lv_iconst (v := (1 : Int32)) hx hb dX6_isByTree_42 (by decide) ?_
          refine lv_goto (tgt := 47) hx hb dX6_isByTree_43 (by decide) ?_
          refine lv_istore_n (lv' := [(3, .int (1 : Int32)), (5, .int r9), (0, .ref (q 0)), (1, .int a1), (2, .int a2), (4, .int x2)]) hx hb dX6_isByTree_47 rfl hl (by decide) rfl (fun ls hl => ?_)
          obtain ⟨x21, ex21⟩ : ∃ y : Int32, y = x2 + (1 : Int32) := ⟨_, rfl⟩
          refine lv_iinc (v := x21) (lv' := [(4, .int x21), (3, .int (1 : Int32)), (5, .int r9), (0, .ref (q 0)), (1, .int a1), (2, .int a2)]) hx hb dX6_isByTree_48 hl (k := 5) rfl (by rw [ex21]; rfl) (by decide) rfl (fun ls hl => ?_)
          replace h := h x21 ex21
          refine lv_goto (tgt := 5) hx hb dX6_isByTree_51 (by decide) ?_
          exact h _ _ _ hw (lv_sub hl [3, 4, 5, 1, 0] rfl)
def wX6_mayGo (S : Bun) (J : Lon) (a1 : Int32) (a2 : Int32) (a3 : Int32) (a4 : Int32) (a5 : Int32) (a6 : Int32) (post : Int32 → Prop) : Prop :=
  wjoin (σ := Int32) (fun y1 => ∀ x5 : Int32, x5 = ((a5 - a4) + (4 : Int32)) - ((a5 - a4) + (4 : Int32)) / (4 : Int32) * (4 : Int32) → wX6_kindOf S J a1 (fun r6 => ∀ x8 : Int32, x8 = r6 → ((x8 = (1 : Int32) → ((y1 = 0 → post (1 : Int32)) ∧ (¬ (y1 = 0) → ((x5 = (1 : Int32) → post (0 : Int32)) ∧ (¬ (x5 = (1 : Int32)) → post (1 : Int32)))))) ∧ (x8 = (2 : Int32) → ((y1 = 0 → post (1 : Int32)) ∧ (¬ (y1 = 0) → ((x5 = (3 : Int32) → post (0 : Int32)) ∧ (¬ (x5 = (3 : Int32)) → post (1 : Int32)))))) ∧ (x8 = (3 : Int32) → ((y1 = 0 → post (1 : Int32)) ∧ (¬ (y1 = 0) → ((a6 = 0 → post (1 : Int32)) ∧ (¬ (a6 = 0) → post (0 : Int32)))))) ∧ (x8 = (4 : Int32) → wjoin (σ := Unit) (fun _ => wX6_isByTree S J a2 a3 (fun r19 => ((r19 = 0 → post (1 : Int32)) ∧ (¬ (r19 = 0) → post (0 : Int32))))) (fun J16 => ((y1 = 0 → J16 ()) ∧ (¬ (y1 = 0) → ((x5 = (1 : Int32) → post (0 : Int32)) ∧ (¬ (x5 = (1 : Int32)) → J16 ())))))) ∧ (x8 = (5 : Int32) → ((y1 = 0 → post (1 : Int32)) ∧ (¬ (y1 = 0) → ((a6 = 0 → post (1 : Int32)) ∧ (¬ (a6 = 0) → post (0 : Int32)))))) ∧ ((x8.toInt < 1 ∨ 5 < x8.toInt) → post (1 : Int32))))) (fun J2 => ((a4 < 0 → J2 (0 : Int32)) ∧ (¬ (a4 < 0) → ((a4 = a5 → J2 (0 : Int32)) ∧ (¬ (a4 = a5) → J2 (1 : Int32))))))
set_option maxRecDepth 100000 in
set_option maxHeartbeats 4000000 in
theorem kX6_mayGo (l : Launch) (g : Gl)  (q : Nat → Nat) (sz : Nat) (S : Bun) (J : Lon) (a1 : Int32) (a2 : Int32) (a3 : Int32) (a4 : Int32) (a5 : Int32) (a6 : Int32) (post : Int32 → Prop) (h : wX6_mayGo S J a1 a2 a3 a4 a5 a6 post) : Met l yX6_mayGo wsX6_mayGo (rmm 2 47) (wPc g E0 ((wM g q) (S, J)) sz [.ref (q 0), .int a1, .int a2, .int a3, .int a4, .int a5, .int a6]) (va_Qi (fun (r : Int32) (u : Bun × Lon) => u = (S, J) ∧ post r) (wB g (wM g q) (va_A ((wM g q) (S, J)) sz)) (va_A ((wM g q) (S, J)) sz)) 0 0 (va_A ((wM g q) (S, J)) sz) := by
  refine mstart (Qf := fun A => va_Qi (fun (r : Int32) (u : Bun × Lon) => u = (S, J) ∧ post r) (wB g (wM g q) A) A) (by decide) rfl (Nat.le_of_ble_eq_true rfl) ?_
  intro p e s m args below meth c A Q H locs ls hC hr hlocks hname hQ hA hK hE hw hl
  have hC : CallFix p m c cX6_mayGo 9 s args wsX6_mayGo RX6 := hC
  obtain ⟨hx, hb, -, hown, hts⟩ := id hC
  have hl : lv_has ls 9 [(0, .ref (q 0)), (1, .int a1), (2, .int a2), (3, .int a3), (4, .int a4), (5, .int a5), (6, .int a6)] := hl
  rw [wX6_mayGo] at h
  refine lv_iload hx hb dX6_mayGo_0 (lv_at hl 4 rfl) ?_
  obtain ⟨J2, hJ3, h⟩ := h
  have join4 : ∀ (y1 : Int32) (H : Heap) (locs : List Loc) (ls : Array Slot), J2 y1 → Wd g.1 A s.heap ((wM g q) (S, J)) H locs → lv_has ls 9 [(0, .ref (q 0)), (1, .int a1), (2, .int a2), (3, .int a3), (4, .int a4), (5, .int a5), (6, .int a6)] → W p l e (rmm 2 47) s m args below meth c H locs 0 0 Q (F0 m 17 ls [.int y1]) := by
    intro y1 H locs ls h hw hl
    replace h := hJ3 y1 h
    refine lv_istore (lv' := [(7, .int y1), (0, .ref (q 0)), (1, .int a1), (2, .int a2), (3, .int a3), (4, .int a4), (5, .int a5), (6, .int a6)]) hx hb dX6_mayGo_17 hl (by decide) rfl (fun ls hl => ?_)
    refine lv_iload hx hb dX6_mayGo_19 (lv_at hl 6 rfl) ?_
    refine lv_iload hx hb dX6_mayGo_21 (lv_at hl 5 rfl) ?_
    refine lv_isub hx hb dX6_mayGo_23 ?_
    refine lv_iconst (v := (4 : Int32)) hx hb dX6_mayGo_24 (by decide) ?_
    refine lv_iadd hx hb dX6_mayGo_25 ?_
    refine lv_iconst (v := (4 : Int32)) hx hb dX6_mayGo_26 (by decide) ?_
    refine lv_irem hx hb dX6_mayGo_27 (by decide) ?_
    refine lv_topi (fun x5 ex5 => ?_)
    replace h := h x5 ex5
    refine lv_istore (lv' := [(8, .int x5), (7, .int y1), (0, .ref (q 0)), (1, .int a1), (2, .int a2), (3, .int a3), (4, .int a4), (5, .int a5), (6, .int a6)]) hx hb dX6_mayGo_28 hl (by decide) rfl (fun ls hl => ?_)
    refine lv_aload_n hx hb dX6_mayGo_30 rfl (lv_at hl 2 rfl) ?_
    refine lv_iload_n hx hb dX6_mayGo_31 rfl (lv_at hl 3 rfl) ?_
    refine mcalli (w1 := (wM g q)) (va_runV (As := [.int a1]) (rest := []) hC (kX6_kindOf l g  q H.size S J a1 _ h) (cwV 1 hts gX6_mayGo_X6_kindOf rfl rfl rfl (by decide +kernel) ⟨Nat.le_of_ble_eq_true rfl, Nat.le_of_ble_eq_true rfl⟩) (mpreV E0_ok hK hE hA hw (Sub1.refl _) 0 rfl rfl) rfl rfl hl.1 rfl (lv_room (Nat.le_of_ble_eq_true rfl)) dX6_mayGo_32 ⟨Nat.zero_le _, Nat.zero_le _⟩) hA hw (Sub1.refl _) (fun _ => Sub.whole rfl) (fun r6 u7 H locs h hw => ?_)
    obtain ⟨hu, h⟩ := h
    replace hu := hu.symm
    subst hu
    refine lv_topi (fun x8 ex8 => ?_)
    replace h := h x8 ex8
    rcases sw1_5 x8 with c9 | c9 | c9 | c9 | c9 | c9
    · replace h := h.1 c9
      rw [c9]
      refine lv_tableIn (tgt := 68) (off := 33) hx hb dX6_mayGo_35 (by decide) (by decide) rfl (by decide) ?_
      refine lv_iload hx hb dX6_mayGo_68 (lv_at hl 1 rfl) ?_
      refine lv_if_eq (tgt := 79) hx hb dX6_mayGo_70 (by decide) (fun c11 => ?_) (fun c11 => ?_)
      · replace h := h.1 c11
        refine lv_iconst (v := (1 : Int32)) hx hb dX6_mayGo_79 (by decide) ?_
        refine lv_goto (tgt := 84) hx hb dX6_mayGo_80 (by decide) ?_
        rw [hQ]
        exact mretz (w := (wM g q)) (u := (S, J)) hC hr hlocks hK hw (Or.inr rfl) ⟨rfl, h⟩ dX6_mayGo_84
      · replace h := h.2 c11
        refine lv_iload hx hb dX6_mayGo_73 (lv_at hl 0 rfl) ?_
        refine lv_iconst (v := (1 : Int32)) hx hb dX6_mayGo_75 (by decide) ?_
        refine lv_icmp_eq (tgt := 83) hx hb dX6_mayGo_76 (by decide) (fun c10 => ?_) (fun c10 => ?_)
        · replace h := h.1 c10
          refine lv_iconst (v := (0 : Int32)) hx hb dX6_mayGo_83 (by decide) ?_
          rw [hQ]
          exact mretz (w := (wM g q)) (u := (S, J)) hC hr hlocks hK hw (Or.inl rfl) ⟨rfl, h⟩ dX6_mayGo_84
        · replace h := h.2 c10
          refine lv_iconst (v := (1 : Int32)) hx hb dX6_mayGo_79 (by decide) ?_
          refine lv_goto (tgt := 84) hx hb dX6_mayGo_80 (by decide) ?_
          rw [hQ]
          exact mretz (w := (wM g q)) (u := (S, J)) hC hr hlocks hK hw (Or.inr rfl) ⟨rfl, h⟩ dX6_mayGo_84
    · replace h := h.2.1 c9
      rw [c9]
      refine lv_tableIn (tgt := 85) (off := 50) hx hb dX6_mayGo_35 (by decide) (by decide) rfl (by decide) ?_
      refine lv_iload hx hb dX6_mayGo_85 (lv_at hl 1 rfl) ?_
      refine lv_if_eq (tgt := 96) hx hb dX6_mayGo_87 (by decide) (fun c13 => ?_) (fun c13 => ?_)
      · replace h := h.1 c13
        refine lv_iconst (v := (1 : Int32)) hx hb dX6_mayGo_96 (by decide) ?_
        refine lv_goto (tgt := 101) hx hb dX6_mayGo_97 (by decide) ?_
        rw [hQ]
        exact mretz (w := (wM g q)) (u := (S, J)) hC hr hlocks hK hw (Or.inr rfl) ⟨rfl, h⟩ dX6_mayGo_101
      · replace h := h.2 c13
        refine lv_iload hx hb dX6_mayGo_90 (lv_at hl 0 rfl) ?_
        refine lv_iconst (v := (3 : Int32)) hx hb dX6_mayGo_92 (by decide) ?_
        refine lv_icmp_eq (tgt := 100) hx hb dX6_mayGo_93 (by decide) (fun c12 => ?_) (fun c12 => ?_)
        · replace h := h.1 c12
          refine lv_iconst (v := (0 : Int32)) hx hb dX6_mayGo_100 (by decide) ?_
          rw [hQ]
          exact mretz (w := (wM g q)) (u := (S, J)) hC hr hlocks hK hw (Or.inl rfl) ⟨rfl, h⟩ dX6_mayGo_101
        · replace h := h.2 c12
          refine lv_iconst (v := (1 : Int32)) hx hb dX6_mayGo_96 (by decide) ?_
          refine lv_goto (tgt := 101) hx hb dX6_mayGo_97 (by decide) ?_
          rw [hQ]
          exact mretz (w := (wM g q)) (u := (S, J)) hC hr hlocks hK hw (Or.inr rfl) ⟨rfl, h⟩ dX6_mayGo_101
    · replace h := h.2.2.1 c9
      rw [c9]
      refine lv_tableIn (tgt := 102) (off := 67) hx hb dX6_mayGo_35 (by decide) (by decide) rfl (by decide) ?_
      refine lv_iload hx hb dX6_mayGo_102 (lv_at hl 1 rfl) ?_
      refine lv_if_eq (tgt := 112) hx hb dX6_mayGo_104 (by decide) (fun c15 => ?_) (fun c15 => ?_)
      · replace h := h.1 c15
        refine lv_iconst (v := (1 : Int32)) hx hb dX6_mayGo_112 (by decide) ?_
        refine lv_goto (tgt := 117) hx hb dX6_mayGo_113 (by decide) ?_
        rw [hQ]
        exact mretz (w := (wM g q)) (u := (S, J)) hC hr hlocks hK hw (Or.inr rfl) ⟨rfl, h⟩ dX6_mayGo_117
      · replace h := h.2 c15
        refine lv_iload hx hb dX6_mayGo_107 (lv_at hl 8 rfl) ?_
        refine lv_if_ne (tgt := 116) hx hb dX6_mayGo_109 (by decide) (fun c14 => ?_) (fun c14 => ?_)
        · replace h := h.2 c14
          refine lv_iconst (v := (0 : Int32)) hx hb dX6_mayGo_116 (by decide) ?_
          rw [hQ]
          exact mretz (w := (wM g q)) (u := (S, J)) hC hr hlocks hK hw (Or.inl rfl) ⟨rfl, h⟩ dX6_mayGo_117
        · replace h := h.1 c14
          refine lv_iconst (v := (1 : Int32)) hx hb dX6_mayGo_112 (by decide) ?_
          refine lv_goto (tgt := 117) hx hb dX6_mayGo_113 (by decide) ?_
          rw [hQ]
          exact mretz (w := (wM g q)) (u := (S, J)) hC hr hlocks hK hw (Or.inr rfl) ⟨rfl, h⟩ dX6_mayGo_117
    · replace h := h.2.2.2.1 c9
      rw [c9]
      refine lv_tableIn (tgt := 118) (off := 83) hx hb dX6_mayGo_35 (by decide) (by decide) rfl (by decide) ?_
      refine lv_iload hx hb dX6_mayGo_118 (lv_at hl 1 rfl) ?_
      obtain ⟨J16, hJ17, h⟩ := h
      have join18 : ∀  (H : Heap) (locs : List Loc) (ls : Array Slot), J16 () → Wd g.1 A s.heap ((wM g q) (S, J)) H locs → lv_has ls 9 [(0, .ref (q 0)), (2, .int a2), (3, .int a3)] → W p l e (rmm 2 47) s m args below meth c H locs 0 0 Q (F0 m 129 ls []) := by
        intro  H locs ls h hw hl
        replace h := hJ17 () h
        refine lv_aload_n hx hb dX6_mayGo_129 rfl (lv_at hl 0 rfl) ?_
        refine lv_iload_n hx hb dX6_mayGo_130 rfl (lv_at hl 1 rfl) ?_
        refine lv_iload_n hx hb dX6_mayGo_131 rfl (lv_at hl 2 rfl) ?_
        refine mcalli (w1 := (wM g q)) (va_runV (As := [.int a2, .int a3]) (rest := []) hC (kX6_isByTree l g  q H.size S J a2 a3 _ h) (cwV 2 hts gX6_mayGo_X6_isByTree rfl rfl rfl (by decide +kernel) ⟨Nat.le_of_ble_eq_true rfl, Nat.le_of_ble_eq_true rfl⟩) (mpreV E0_ok hK hE hA hw (Sub1.refl _) 0 rfl rfl) rfl rfl hl.1 rfl (lv_room (Nat.le_of_ble_eq_true rfl)) dX6_mayGo_132 ⟨Nat.zero_le _, Nat.zero_le _⟩) hA hw (Sub1.refl _) (fun _ => Sub.whole rfl) (fun r19 u20 H locs h hw => ?_)
        obtain ⟨hu, h⟩ := h
        replace hu := hu.symm
        subst hu
        refine lv_if_ne (tgt := 142) hx hb dX6_mayGo_135 (by decide) (fun c21 => ?_) (fun c21 => ?_)
        · replace h := h.2 c21
          refine lv_iconst (v := (0 : Int32)) hx hb dX6_mayGo_142 (by decide) ?_
          rw [hQ]
          exact mretz (w := (wM g q)) (u := (S, J)) hC hr hlocks hK hw (Or.inl rfl) ⟨rfl, h⟩ dX6_mayGo_143
        · replace h := h.1 c21
          refine lv_iconst (v := (1 : Int32)) hx hb dX6_mayGo_138 (by decide) ?_
          refine lv_goto (tgt := 143) hx hb dX6_mayGo_139 (by decide) ?_
          rw [hQ]
          exact mretz (w := (wM g q)) (u := (S, J)) hC hr hlocks hK hw (Or.inr rfl) ⟨rfl, h⟩ dX6_mayGo_143
      refine lv_if_eq (tgt := 129) hx hb dX6_mayGo_120 (by decide) (fun c23 => ?_) (fun c23 => ?_)
      · replace h := h.1 c23
        exact join18  _ _ _ h hw (lv_sub hl [2, 4, 5] rfl)
      · replace h := h.2 c23
        refine lv_iload hx hb dX6_mayGo_123 (lv_at hl 0 rfl) ?_
        refine lv_iconst (v := (1 : Int32)) hx hb dX6_mayGo_125 (by decide) ?_
        refine lv_icmp_eq (tgt := 142) hx hb dX6_mayGo_126 (by decide) (fun c22 => ?_) (fun c22 => ?_)
        · replace h := h.1 c22
          refine lv_iconst (v := (0 : Int32)) hx hb dX6_mayGo_142 (by decide) ?_
          rw [hQ]
          exact mretz (w := (wM g q)) (u := (S, J)) hC hr hlocks hK hw (Or.inl rfl) ⟨rfl, h⟩ dX6_mayGo_143
        · replace h := h.2 c22
          exact join18  _ _ _ h hw (lv_sub hl [2, 4, 5] rfl)
    · replace h := h.2.2.2.2.1 c9
      rw [c9]
      refine lv_tableIn (tgt := 102) (off := 67) hx hb dX6_mayGo_35 (by decide) (by decide) rfl (by decide) ?_
      refine lv_iload hx hb dX6_mayGo_102 (lv_at hl 1 rfl) ?_
      refine lv_if_eq (tgt := 112) hx hb dX6_mayGo_104 (by decide) (fun c25 => ?_) (fun c25 => ?_)
      · replace h := h.1 c25
        refine lv_iconst (v := (1 : Int32)) hx hb dX6_mayGo_112 (by decide) ?_
        refine lv_goto (tgt := 117) hx hb dX6_mayGo_113 (by decide) ?_
        rw [hQ]
        exact mretz (w := (wM g q)) (u := (S, J)) hC hr hlocks hK hw (Or.inr rfl) ⟨rfl, h⟩ dX6_mayGo_117
      · replace h := h.2 c25
        refine lv_iload hx hb dX6_mayGo_107 (lv_at hl 8 rfl) ?_
        refine lv_if_ne (tgt := 116) hx hb dX6_mayGo_109 (by decide) (fun c24 => ?_) (fun c24 => ?_)
        · replace h := h.2 c24
          refine lv_iconst (v := (0 : Int32)) hx hb dX6_mayGo_116 (by decide) ?_
          rw [hQ]
          exact mretz (w := (wM g q)) (u := (S, J)) hC hr hlocks hK hw (Or.inl rfl) ⟨rfl, h⟩ dX6_mayGo_117
        · replace h := h.1 c24
          refine lv_iconst (v := (1 : Int32)) hx hb dX6_mayGo_112 (by decide) ?_
          refine lv_goto (tgt := 117) hx hb dX6_mayGo_113 (by decide) ?_
          rw [hQ]
          exact mretz (w := (wM g q)) (u := (S, J)) hC hr hlocks hK hw (Or.inr rfl) ⟨rfl, h⟩ dX6_mayGo_117
    · replace h := h.2.2.2.2.2 c9
      refine lv_tableOut (tgt := 144) hx hb dX6_mayGo_35 c9 (by decide) ?_
      refine lv_iconst (v := (1 : Int32)) hx hb dX6_mayGo_144 (by decide) ?_
      rw [hQ]
      exact mretz (w := (wM g q)) (u := (S, J)) hC hr hlocks hK hw (Or.inr rfl) ⟨rfl, h⟩ dX6_mayGo_145
  refine lv_if_lt (tgt := 16) hx hb dX6_mayGo_2 (by decide) (fun c27 => ?_) (fun c27 => ?_)
  · replace h := h.1 c27
    refine lv_iconst (v := (0 : Int32)) hx hb dX6_mayGo_16 (by decide) ?_
    exact join4 (0 : Int32) _ _ _ h hw (lv_sub hl [0, 1, 2, 3, 4, 5, 6] rfl)
  · replace h := h.2 c27
    refine lv_iload hx hb dX6_mayGo_5 (lv_at hl 4 rfl) ?_
    refine lv_iload hx hb dX6_mayGo_7 (lv_at hl 5 rfl) ?_
    refine lv_icmp_eq (tgt := 16) hx hb dX6_mayGo_9 (by decide) (fun c26 => ?_) (fun c26 => ?_)
    · replace h := h.1 c26
      refine lv_iconst (v := (0 : Int32)) hx hb dX6_mayGo_16 (by decide) ?_
      exact join4 (0 : Int32) _ _ _ h hw (lv_sub hl [0, 1, 2, 3, 4, 5, 6] rfl)
    · replace h := h.2 c26
      refine lv_iconst (v := (1 : Int32)) hx hb dX6_mayGo_12 (by decide) ?_
      refine lv_goto (tgt := 17) hx hb dX6_mayGo_13 (by decide) ?_
      exact join4 (1 : Int32) _ _ _ h hw (lv_sub hl [0, 1, 2, 3, 4, 5, 6] rfl)
def wX6_may (S : Bun) (J : Lon) (a1 : Int32) (a2 : Int32) (a3 : Int32) (a4 : Int32) (a5 : Int32) (a6 : Int32) (post : Int32 → Bun → Prop) : Prop :=
  wX6_isTeam S J a1 (fun r1 => wjoin (σ := Unit) (fun _ => wX6_finds S J (-1000000001 : Int32) (fun r6 S8 => post r6 S8)) (fun J3 => ((r1 = 0 → J3 ()) ∧ (¬ (r1 = 0) → wX6_isField S J a2 (fun r10 => ((r10 = 0 → J3 ()) ∧ (¬ (r10 = 0) → wX6_in a3.toInt64 (0 : Int64) (15 : Int64) (fun r12 => ((r12 = 0 → J3 ()) ∧ (¬ (r12 = 0) → wX6_in a4.toInt64 (-1 : Int64) (3 : Int64) (fun r14 => ((r14 = 0 → J3 ()) ∧ (¬ (r14 = 0) → wX6_in a5.toInt64 (0 : Int64) (3 : Int64) (fun r16 => ((r16 = 0 → J3 ()) ∧ (¬ (r16 = 0) → wX6_mayGo S J a1 a2 a3 a4 a5 a6 (fun r18 => ((r18 = 0 → post (0 : Int32) S) ∧ (¬ (r18 = 0) → post (1 : Int32) S)))))))))))))))))))
set_option maxRecDepth 100000 in
set_option maxHeartbeats 4000000 in
theorem kX6_may (l : Launch) (g : Gl)  (q : Nat → Nat) (sz : Nat) (S : Bun) (J : Lon) (a1 : Int32) (a2 : Int32) (a3 : Int32) (a4 : Int32) (a5 : Int32) (a6 : Int32) (post : Int32 → Bun → Prop) (h : wX6_may S J a1 a2 a3 a4 a5 a6 post) : Met l yX6_may wsX6_may (rmm 3 75) (wPc g E0 ((wM g q) (S, J)) sz [.ref (q 0), .int a1, .int a2, .int a3, .int a4, .int a5, .int a6]) (va_Qi (fun (r : Int32) (u : Bun × Lon) => u.2 = J ∧ post r u.1) (wB g (wM g q) (va_A ((wM g q) (S, J)) sz)) (va_A ((wM g q) (S, J)) sz)) 0 0 (va_A ((wM g q) (S, J)) sz) := by
  refine mstart (Qf := fun A => va_Qi (fun (r : Int32) (u : Bun × Lon) => u.2 = J ∧ post r u.1) (wB g (wM g q) A) A) (by decide) rfl (Nat.le_of_ble_eq_true rfl) ?_
  intro p e s m args below meth c A Q H locs ls hC hr hlocks hname hQ hA hK hE hw hl
  have hC : CallFix p m c cX6_may 7 s args wsX6_may RX6 := hC
  obtain ⟨hx, hb, -, hown, hts⟩ := id hC
  have hl : lv_has ls 7 [(0, .ref (q 0)), (1, .int a1), (2, .int a2), (3, .int a3), (4, .int a4), (5, .int a5), (6, .int a6)] := hl
  rw [wX6_may] at h
  refine lv_aload_n hx hb dX6_may_0 rfl (lv_at hl 0 rfl) ?_
  refine lv_iload_n hx hb dX6_may_1 rfl (lv_at hl 1 rfl) ?_
  refine mcalli (w1 := (wM g q)) (va_runV (As := [.int a1]) (rest := []) hC (kX6_isTeam l g  q H.size S J a1 _ h) (cwV 1 hts gX6_may_X6_isTeam rfl rfl rfl (by decide +kernel) ⟨Nat.le_of_ble_eq_true rfl, Nat.le_of_ble_eq_true rfl⟩) (mpreV E0_ok hK hE hA hw (Sub1.refl _) 0 rfl rfl) rfl rfl hl.1 rfl (lv_room (Nat.le_of_ble_eq_true rfl)) dX6_may_2 ⟨Nat.zero_le _, Nat.zero_le _⟩) hA hw (Sub1.refl _) (fun _ => Sub.whole rfl) (fun r1 u2 H locs h hw => ?_)
  obtain ⟨hu, h⟩ := h
  replace hu := hu.symm
  subst hu
  obtain ⟨J3, hJ4, h⟩ := h
  have join5 : ∀  (H : Heap) (locs : List Loc) (ls : Array Slot), J3 () → Wd g.1 A s.heap ((wM g q) (S, J)) H locs → lv_has ls 7 [(0, .ref (q 0))] → W p l e (rmm 3 75) s m args below meth c H locs 0 0 Q (F0 m 56 ls []) := by
    intro  H locs ls h hw hl
    replace h := hJ4 () h
    refine lv_aload_n hx hb dX6_may_56 rfl (lv_at hl 0 rfl) ?_
    refine lv_ldc (v := (-1000000001 : Int32)) hx hb hown (hts (.constant RX6 68 (-1000000001)) (List.mem_of_getElem? (i := 4) rfl)) dX6_may_57 ?_
    refine mcalli (w1 := (wM g q)) (va_runV (As := [.int (-1000000001 : Int32)]) (rest := []) hC (kX6_finds l g  q H.size S J (-1000000001 : Int32) _ h) (cwV 1 hts gX6_may_X6_finds rfl rfl rfl (by decide +kernel) ⟨Nat.le_of_ble_eq_true rfl, Nat.le_of_ble_eq_true rfl⟩) (mpreV E0_ok hK hE hA hw (Sub1.refl _) 0 rfl rfl) rfl rfl hl.1 rfl (lv_room (Nat.le_of_ble_eq_true rfl)) dX6_may_59 ⟨Nat.zero_le _, Nat.zero_le _⟩) hA hw (Sub1.refl _) (fun _ => Sub.whole rfl) (fun r6 u7 H locs h hw => ?_)
    obtain ⟨S8, J9⟩ := u7
    obtain ⟨hu, h⟩ := h
    replace hu : J = J9 := hu.symm
    subst hu
    rw [hQ]
    exact mreti (w := (wM g q)) (u := (S8, J)) hC hr hlocks hK hw ⟨rfl, h⟩ dX6_may_62
  refine lv_if_eq (tgt := 56) hx hb dX6_may_5 (by decide) (fun c25 => ?_) (fun c25 => ?_)
  · replace h := h.1 c25
    exact join5  _ _ _ h hw (lv_sub hl [0] rfl)
  · replace h := h.2 c25
    refine lv_aload_n hx hb dX6_may_8 rfl (lv_at hl 0 rfl) ?_
    refine lv_iload_n hx hb dX6_may_9 rfl (lv_at hl 2 rfl) ?_
    refine mcalli (w1 := (wM g q)) (va_runV (As := [.int a2]) (rest := []) hC (kX6_isField l g  q H.size S J a2 _ h) (cwV 1 hts gX6_may_X6_isField rfl rfl rfl (by decide +kernel) ⟨Nat.le_of_ble_eq_true rfl, Nat.le_of_ble_eq_true rfl⟩) (mpreV E0_ok hK hE hA hw (Sub1.refl _) 0 rfl rfl) rfl rfl hl.1 rfl (lv_room (Nat.le_of_ble_eq_true rfl)) dX6_may_10 ⟨Nat.zero_le _, Nat.zero_le _⟩) hA hw (Sub1.refl _) (fun _ => Sub.whole rfl) (fun r10 u11 H locs h hw => ?_)
    obtain ⟨hu, h⟩ := h
    replace hu := hu.symm
    subst hu
    refine lv_if_eq (tgt := 56) hx hb dX6_may_13 (by decide) (fun c24 => ?_) (fun c24 => ?_)
    · replace h := h.1 c24
      exact join5  _ _ _ h hw (lv_sub hl [0] rfl)
    · replace h := h.2 c24
      refine lv_iload_n hx hb dX6_may_16 rfl (lv_at hl 3 rfl) ?_
      refine lv_i2l (v := a3.toInt64) hx hb dX6_may_17 rfl ?_
      refine lv_lconst (v := (0 : Int64)) hx hb dX6_may_18 (by decide) ?_
      refine lv_ldc2 (v := (15 : Int64)) hx hb hown (hts (.constantLong RX6 140 (15)) (List.mem_of_getElem? (i := 1) rfl)) dX6_may_19 ?_
      refine mcalli (w1 := (fun _ => (wM g q) (S, J))) (wc := fun _ : Unit => ([] : va_W)) (u := ()) (va_runS (As := [.long a3.toInt64, .long (0 : Int64), .long (15 : Int64)]) (rest := []) hC (kX6_in l g  H.size a3.toInt64 (0 : Int64) (15 : Int64) _ h) (va_cwS 3 hts gX6_may_X6_in rfl rfl rfl (by decide +kernel) ⟨Nat.le_of_ble_eq_true rfl, Nat.le_of_ble_eq_true rfl⟩) (mpre E0_ok hK hE hA hw (Sub1.nil _)) rfl rfl hl.1 rfl (lv_room (Nat.le_of_ble_eq_true rfl)) dX6_may_22 ⟨Nat.zero_le _, Nat.zero_le _⟩) hA hw (Sub1.nil _) (fun _ => Sub.nil _) (fun r12 u13 H locs h hw => ?_)
      obtain ⟨_, h⟩ := h
      refine lv_if_eq (tgt := 56) hx hb dX6_may_25 (by decide) (fun c23 => ?_) (fun c23 => ?_)
      · replace h := h.1 c23
        exact join5  _ _ _ h hw (lv_sub hl [0] rfl)
      · replace h := h.2 c23
        refine lv_iload hx hb dX6_may_28 (lv_at hl 4 rfl) ?_
        refine lv_i2l (v := a4.toInt64) hx hb dX6_may_30 rfl ?_
        refine lv_ldc2 (v := (-1 : Int64)) hx hb hown (hts (.constantLong RX6 142 (-1)) (List.mem_of_getElem? (i := 2) rfl)) dX6_may_31 ?_
        refine lv_ldc2 (v := (3 : Int64)) hx hb hown (hts (.constantLong RX6 144 (3)) (List.mem_of_getElem? (i := 3) rfl)) dX6_may_34 ?_
        refine mcalli (w1 := (fun _ => (wM g q) (S, J))) (wc := fun _ : Unit => ([] : va_W)) (u := ()) (va_runS (As := [.long a4.toInt64, .long (-1 : Int64), .long (3 : Int64)]) (rest := []) hC (kX6_in l g  H.size a4.toInt64 (-1 : Int64) (3 : Int64) _ h) (va_cwS 3 hts gX6_may_X6_in rfl rfl rfl (by decide +kernel) ⟨Nat.le_of_ble_eq_true rfl, Nat.le_of_ble_eq_true rfl⟩) (mpre E0_ok hK hE hA hw (Sub1.nil _)) rfl rfl hl.1 rfl (lv_room (Nat.le_of_ble_eq_true rfl)) dX6_may_37 ⟨Nat.zero_le _, Nat.zero_le _⟩) hA hw (Sub1.nil _) (fun _ => Sub.nil _) (fun r14 u15 H locs h hw => ?_)
        obtain ⟨_, h⟩ := h
        refine lv_if_eq (tgt := 56) hx hb dX6_may_40 (by decide) (fun c22 => ?_) (fun c22 => ?_)
        · replace h := h.1 c22
          exact join5  _ _ _ h hw (lv_sub hl [0] rfl)
        · replace h := h.2 c22
          refine lv_iload hx hb dX6_may_43 (lv_at hl 5 rfl) ?_
          refine lv_i2l (v := a5.toInt64) hx hb dX6_may_45 rfl ?_
          refine lv_lconst (v := (0 : Int64)) hx hb dX6_may_46 (by decide) ?_
          refine lv_ldc2 (v := (3 : Int64)) hx hb hown (hts (.constantLong RX6 144 (3)) (List.mem_of_getElem? (i := 3) rfl)) dX6_may_47 ?_
          refine mcalli (w1 := (fun _ => (wM g q) (S, J))) (wc := fun _ : Unit => ([] : va_W)) (u := ()) (va_runS (As := [.long a5.toInt64, .long (0 : Int64), .long (3 : Int64)]) (rest := []) hC (kX6_in l g  H.size a5.toInt64 (0 : Int64) (3 : Int64) _ h) (va_cwS 3 hts gX6_may_X6_in rfl rfl rfl (by decide +kernel) ⟨Nat.le_of_ble_eq_true rfl, Nat.le_of_ble_eq_true rfl⟩) (mpre E0_ok hK hE hA hw (Sub1.nil _)) rfl rfl hl.1 rfl (lv_room (Nat.le_of_ble_eq_true rfl)) dX6_may_50 ⟨Nat.zero_le _, Nat.zero_le _⟩) hA hw (Sub1.nil _) (fun _ => Sub.nil _) (fun r16 u17 H locs h hw => ?_)
          obtain ⟨_, h⟩ := h
          refine lv_if_ne (tgt := 63) hx hb dX6_may_53 (by decide) (fun c21 => ?_) (fun c21 => ?_)
          · replace h := h.2 c21
            refine lv_aload_n hx hb dX6_may_63 rfl (lv_at hl 0 rfl) ?_
            refine lv_iload_n hx hb dX6_may_64 rfl (lv_at hl 1 rfl) ?_
            refine lv_iload_n hx hb dX6_may_65 rfl (lv_at hl 2 rfl) ?_
            refine lv_iload_n hx hb dX6_may_66 rfl (lv_at hl 3 rfl) ?_
            refine lv_iload hx hb dX6_may_67 (lv_at hl 4 rfl) ?_
            refine lv_iload hx hb dX6_may_69 (lv_at hl 5 rfl) ?_
            refine lv_iload hx hb dX6_may_71 (lv_at hl 6 rfl) ?_
            refine mcalli (w1 := (wM g q)) (va_runV (As := [.int a1, .int a2, .int a3, .int a4, .int a5, .int a6]) (rest := []) hC (kX6_mayGo l g  q H.size S J a1 a2 a3 a4 a5 a6 _ h) (cwV 6 hts gX6_may_X6_mayGo rfl rfl rfl (by decide +kernel) ⟨Nat.le_of_ble_eq_true rfl, Nat.le_of_ble_eq_true rfl⟩) (mpreV E0_ok hK hE hA hw (Sub1.refl _) 0 rfl rfl) rfl rfl hl.1 rfl (lv_room (Nat.le_of_ble_eq_true rfl)) dX6_may_73 ⟨Nat.zero_le _, Nat.zero_le _⟩) hA hw (Sub1.refl _) (fun _ => Sub.whole rfl) (fun r18 u19 H locs h hw => ?_)
            obtain ⟨hu, h⟩ := h
            replace hu := hu.symm
            subst hu
            refine lv_if_eq (tgt := 83) hx hb dX6_may_76 (by decide) (fun c20 => ?_) (fun c20 => ?_)
            · replace h := h.1 c20
              refine lv_iconst (v := (0 : Int32)) hx hb dX6_may_83 (by decide) ?_
              rw [hQ]
              exact mreti (w := (wM g q)) (u := (S, J)) hC hr hlocks hK hw ⟨rfl, h⟩ dX6_may_84
            · replace h := h.2 c20
              refine lv_iconst (v := (1 : Int32)) hx hb dX6_may_79 (by decide) ?_
              refine lv_goto (tgt := 84) hx hb dX6_may_80 (by decide) ?_
              rw [hQ]
              exact mreti (w := (wM g q)) (u := (S, J)) hC hr hlocks hK hw ⟨rfl, h⟩ dX6_may_84
          · replace h := h.1 c21
            exact join5  _ _ _ h hw (lv_sub hl [0] rfl)
def wX6_direction  (a1 : Int32) (post : Int32 → Prop) : Prop :=
  ((a1 = 0 → post (0 : Int32)) ∧ (¬ (a1 = 0) → ((a1 = (1 : Int32) → post (3 : Int32)) ∧ (¬ (a1 = (1 : Int32)) → ((a1 = (2 : Int32) → post (1 : Int32)) ∧ (¬ (a1 = (2 : Int32)) → post (2 : Int32)))))))
set_option maxRecDepth 100000 in
set_option maxHeartbeats 4000000 in
theorem kX6_direction (l : Launch) (g : Gl)   (sz : Nat)  (a1 : Int32) (post : Int32 → Prop) (h : wX6_direction  a1 post) : Met l yX6_direction wsX6_direction (rmm 0 0) (wPc g E0 (([] : va_W)) sz [.int a1]) (va_Qi (fun (r : Int32) (u : Unit) => u = () ∧ post r) (wB g (fun _ : Unit => ([] : va_W)) (va_A (([] : va_W)) sz)) (va_A (([] : va_W)) sz)) 0 0 (va_A (([] : va_W)) sz) := by
  refine mstart (Qf := fun A => va_Qi (fun (r : Int32) (u : Unit) => u = () ∧ post r) (wB g (fun _ : Unit => ([] : va_W)) A) A) (by decide) rfl (Nat.le_of_ble_eq_true rfl) ?_
  intro p e s m args below meth c A Q H locs ls hC hr hlocks hname hQ hA hK hE hw hl
  have hC : CallFix p m c cX6_direction 1 s args wsX6_direction RX6 := hC
  obtain ⟨hx, hb, -, hown, hts⟩ := id hC
  have hl : lv_has ls 1 [(0, .int a1)] := hl
  rw [wX6_direction] at h
  refine lv_iload_n hx hb dX6_direction_0 rfl (lv_at hl 0 rfl) ?_
  refine lv_if_ne (tgt := 8) hx hb dX6_direction_1 (by decide) (fun c3 => ?_) (fun c3 => ?_)
  · replace h := h.2 c3
    refine lv_iload_n hx hb dX6_direction_8 rfl (lv_at hl 0 rfl) ?_
    refine lv_iconst (v := (1 : Int32)) hx hb dX6_direction_9 (by decide) ?_
    refine lv_icmp_ne (tgt := 17) hx hb dX6_direction_10 (by decide) (fun c2 => ?_) (fun c2 => ?_)
    · replace h := h.2 c2
      refine lv_iload_n hx hb dX6_direction_17 rfl (lv_at hl 0 rfl) ?_
      refine lv_iconst (v := (2 : Int32)) hx hb dX6_direction_18 (by decide) ?_
      refine lv_icmp_ne (tgt := 26) hx hb dX6_direction_19 (by decide) (fun c1 => ?_) (fun c1 => ?_)
      · replace h := h.2 c1
        refine lv_iconst (v := (2 : Int32)) hx hb dX6_direction_26 (by decide) ?_
        rw [hQ]
        exact mreti (w := (fun _ : Unit => ([] : va_W))) (u := ()) hC hr hlocks hK hw ⟨rfl, h⟩ dX6_direction_27
      · replace h := h.1 c1
        refine lv_iconst (v := (1 : Int32)) hx hb dX6_direction_22 (by decide) ?_
        refine lv_goto (tgt := 27) hx hb dX6_direction_23 (by decide) ?_
        rw [hQ]
        exact mreti (w := (fun _ : Unit => ([] : va_W))) (u := ()) hC hr hlocks hK hw ⟨rfl, h⟩ dX6_direction_27
    · replace h := h.1 c2
      refine lv_iconst (v := (3 : Int32)) hx hb dX6_direction_13 (by decide) ?_
      refine lv_goto (tgt := 27) hx hb dX6_direction_14 (by decide) ?_
      rw [hQ]
      exact mreti (w := (fun _ : Unit => ([] : va_W))) (u := ()) hC hr hlocks hK hw ⟨rfl, h⟩ dX6_direction_27
  · replace h := h.1 c3
    refine lv_iconst (v := (0 : Int32)) hx hb dX6_direction_4 (by decide) ?_
    refine lv_goto (tgt := 27) hx hb dX6_direction_5 (by decide) ?_
    rw [hQ]
    exact mreti (w := (fun _ : Unit => ([] : va_W))) (u := ()) hC hr hlocks hK hw ⟨rfl, h⟩ dX6_direction_27
def wX6_reaches (S : Bun) (J : Lon) (a1 : Int32) (a2 : Int32) (post : Bun → Prop) : Prop :=
  vp_in (a2 - (1 : Int32)) 16 ∧ ∀ x1 : Int32, x1 = S 6 (a2 - (1 : Int32)).toNatClampNeg → wX6_its S J a1 (3 : Int32) (fun r2 => wjoin (σ := Unit) (fun _ => wjoin (σ := Int32) (fun y7 => ∀ S11 : Bun, S11 = up S 0 12 y7 → wX6_earth S11 J a1 (fun r12 => wX6_ones r12 (fun r14 => ((a2 = r14 → ∀ S16 : Bun, S16 = up S11 0 10 ((S11 0 10) + (1 : Int32)) → wjoin (σ := Unit) (fun _ => vp_in (a2 - (1 : Int32)) 16 ∧ ∀ S20 : Bun, S20 = up S16 0 11 (S16 9 (a2 - (1 : Int32)).toNatClampNeg) → ∀ S21 : Bun, S21 = up S20 0 13 a2 → wloop (σ := Int32 × Bun) (fun K24 z => match z with | (x22, S23) => ((a2 ≤ x22 → post S23) ∧ (¬ (a2 ≤ x22) → vp_in x22 16 ∧ vp_in x22 16 ∧ ∀ S30 : Bun, S30 = up S23 10 x22.toNatClampNeg (S23 6 x22.toNatClampNeg) → ∀ x31 : Int32, x31 = x22 + (1 : Int32) → K24 (x31, S30)))) ((0 : Int32), S21)) (fun J17 => (((S16 0 11) < 0 → J17 ()) ∧ (¬ ((S16 0 11) < 0) → vp_in (a2 - (1 : Int32)) 16 ∧ (((S16 0 11) ≤ (S16 9 (a2 - (1 : Int32)).toNatClampNeg) → post S16) ∧ (¬ ((S16 0 11) ≤ (S16 9 (a2 - (1 : Int32)).toNatClampNeg)) → J17 ())))))) ∧ (¬ (a2 = r14) → post S11))))) (fun J8 => ((a2 ≤ (S 0 12) → J8 (S 0 12)) ∧ (¬ (a2 ≤ (S 0 12)) → J8 a2)))) (fun J4 => ((r2 < 0 → J4 ()) ∧ (¬ (r2 < 0) → wX6_its S J a1 (3 : Int32) (fun r38 => ((r38 = x1 → J4 ()) ∧ (¬ (r38 = x1) → post S)))))))
set_option maxRecDepth 100000 in
set_option maxHeartbeats 4000000 in
theorem kX6_reaches (l : Launch) (g : Gl)  (q : Nat → Nat) (sz : Nat) (S : Bun) (J : Lon) (a1 : Int32) (a2 : Int32) (post : Bun → Prop) (h : wX6_reaches S J a1 a2 post) : Met l yX6_reaches wsX6_reaches (rmm 2 43) (wPc g E0 ((wM g q) (S, J)) sz [.ref (q 0), .int a1, .int a2]) (va_Qv (fun (u : Bun × Lon) => u.2 = J ∧ post u.1) (wB g (wM g q) (va_A ((wM g q) (S, J)) sz)) (va_A ((wM g q) (S, J)) sz)) 0 0 (va_A ((wM g q) (S, J)) sz) := by
  refine mstart (Qf := fun A => va_Qv (fun (u : Bun × Lon) => u.2 = J ∧ post u.1) (wB g (wM g q) A) A) (by decide) rfl (Nat.le_of_ble_eq_true rfl) ?_
  intro p e s m args below meth c A Q H locs ls hC hr hlocks hname hQ hA hK hE hw hl
  have hC : CallFix p m c cX6_reaches 5 s args wsX6_reaches RX6 := hC
  obtain ⟨hx, hb, -, hown, hts⟩ := id hC
  have hl : lv_has ls 5 [(0, .ref (q 0)), (1, .int a1), (2, .int a2)] := hl
  rw [wX6_reaches] at h
  have hinX6 : ∀ w ∈ wsX60, w ∈ wsX6_reaches := fun w hw9 => List.mem_cons_of_mem _ (List.mem_append_right _ hw9)
  refine lv_aload_n hx hb dX6_reaches_0 rfl (lv_at hl 0 rfl) ?_
  refine M_mg5 hC hinX6 hK hw (List.mem_of_getElem? (i := 1) rfl) dX6_reaches_1 ?_
  refine lv_iload_n hx hb dX6_reaches_4 rfl (lv_at hl 2 rfl) ?_
  refine lv_iconst (v := (1 : Int32)) hx hb dX6_reaches_5 (by decide) ?_
  refine lv_isub hx hb dX6_reaches_6 ?_
  obtain ⟨hi, h⟩ := h
  refine M_ml5 hC hK hw hi dX6_reaches_7 ?_
  refine lv_topi (fun x1 ex1 => ?_)
  replace h := h x1 ex1
  refine lv_istore_n (lv' := [(3, .int x1), (0, .ref (q 0)), (1, .int a1), (2, .int a2)]) hx hb dX6_reaches_8 rfl hl (by decide) rfl (fun ls hl => ?_)
  refine lv_aload_n hx hb dX6_reaches_9 rfl (lv_at hl 1 rfl) ?_
  refine lv_iload_n hx hb dX6_reaches_10 rfl (lv_at hl 2 rfl) ?_
  refine lv_iconst (v := (3 : Int32)) hx hb dX6_reaches_11 (by decide) ?_
  refine mcalli (w1 := (wM g q)) (va_runV (As := [.int a1, .int (3 : Int32)]) (rest := []) hC (kX6_its l g  q H.size S J a1 (3 : Int32) _ h) (cwV 2 hts gX6_reaches_X6_its rfl rfl rfl (by decide +kernel) ⟨Nat.le_of_ble_eq_true rfl, Nat.le_of_ble_eq_true rfl⟩) (mpreV E0_ok hK hE hA hw (Sub1.refl _) 0 rfl rfl) rfl rfl hl.1 rfl (lv_room (Nat.le_of_ble_eq_true rfl)) dX6_reaches_12 ⟨Nat.zero_le _, Nat.zero_le _⟩) hA hw (Sub1.refl _) (fun _ => Sub.whole rfl) (fun r2 u3 H locs h hw => ?_)
  obtain ⟨hu, h⟩ := h
  replace hu := hu.symm
  subst hu
  obtain ⟨J4, hJ5, h⟩ := h
  have join6 : ∀  (H : Heap) (locs : List Loc) (ls : Array Slot), J4 () → Wd g.1 A s.heap ((wM g q) (S, J)) H locs → lv_has ls 5 [(0, .ref (q 0)), (1, .int a1), (2, .int a2)] → W p l e (rmm 2 43) s m args below meth c H locs 0 0 Q (F0 m 29 ls []) := by
    intro  H locs ls h hw hl
    replace h := hJ5 () h
    refine lv_aload_n hx hb dX6_reaches_29 rfl (lv_at hl 0 rfl) ?_
    refine lv_iload_n hx hb dX6_reaches_30 rfl (lv_at hl 2 rfl) ?_
    refine lv_aload_n hx hb dX6_reaches_31 rfl (lv_at hl 0 rfl) ?_
    refine M_mg12 hC hinX6 hK hw (List.mem_of_getElem? (i := 2) rfl) dX6_reaches_32 ?_
    obtain ⟨J8, hJ9, h⟩ := h
    have join10 : ∀ (y7 : Int32) (H : Heap) (locs : List Loc) (ls : Array Slot), J8 y7 → Wd g.1 A s.heap ((wM g q) (S, J)) H locs → lv_has ls 5 [(0, .ref (q 0)), (1, .int a1), (2, .int a2)] → W p l e (rmm 2 43) s m args below meth c H locs 0 0 Q (F0 m 46 ls [.int y7, .ref (q 0)]) := by
      intro y7 H locs ls h hw hl
      replace h := hJ9 y7 h
      refine M_mp12 hC hinX6 hK hw (List.mem_of_getElem? (i := 2) rfl) dX6_reaches_46 (fun S11 H locs eS11 hw => ?_)
      replace h := h S11 eS11
      refine lv_iload_n hx hb dX6_reaches_49 rfl (lv_at hl 2 rfl) ?_
      refine lv_aload_n hx hb dX6_reaches_50 rfl (lv_at hl 0 rfl) ?_
      refine lv_iload_n hx hb dX6_reaches_51 rfl (lv_at hl 1 rfl) ?_
      refine mcalli (w1 := (wM g q)) (va_runV (As := [.int a1]) (rest := [.int a2]) hC (kX6_earth l g  q H.size S11 J a1 _ h) (cwV 1 hts gX6_reaches_X6_earth rfl rfl rfl (by decide +kernel) ⟨Nat.le_of_ble_eq_true rfl, Nat.le_of_ble_eq_true rfl⟩) (mpreV E0_ok hK hE hA hw (Sub1.refl _) 0 rfl rfl) rfl rfl hl.1 rfl (lv_room (Nat.le_of_ble_eq_true rfl)) dX6_reaches_52 ⟨Nat.zero_le _, Nat.zero_le _⟩) hA hw (Sub1.refl _) (fun _ => Sub.whole rfl) (fun r12 u13 H locs h hw => ?_)
      obtain ⟨hu, h⟩ := h
      replace hu := hu.symm
      subst hu
      refine mcalli (w1 := (fun _ => (wM g q) (S11, J))) (wc := fun _ : Unit => ([] : va_W)) (u := ()) (va_runS (As := [.int r12]) (rest := [.int a2]) hC (kX6_ones l g  H.size r12 _ h) (va_cwS 1 hts gX6_reaches_X6_ones rfl rfl rfl (by decide +kernel) ⟨Nat.le_of_ble_eq_true rfl, Nat.le_of_ble_eq_true rfl⟩) (mpre E0_ok hK hE hA hw (Sub1.nil _)) rfl rfl hl.1 rfl (lv_room (Nat.le_of_ble_eq_true rfl)) dX6_reaches_55 ⟨Nat.zero_le _, Nat.zero_le _⟩) hA hw (Sub1.nil _) (fun _ => Sub.nil _) (fun r14 u15 H locs h hw => ?_)
      obtain ⟨_, h⟩ := h
      refine lv_icmp_ne (tgt := 139) hx hb dX6_reaches_58 (by decide) (fun c36 => ?_) (fun c36 => ?_)
      · replace h := h.2 c36
        rw [hQ]
        exact mretv (w := (wM g q)) (u := (S11, J)) hC hr hlocks hK hw ⟨rfl, h⟩ dX6_reaches_139
      · replace h := h.1 c36
        refine lv_aload_n hx hb dX6_reaches_61 rfl (lv_at hl 0 rfl) ?_
        refine lv_dup hx hb dX6_reaches_62 rfl ?_
        refine M_mg10 hC hinX6 hK hw (List.mem_of_getElem? (i := 3) rfl) dX6_reaches_63 ?_
        refine lv_iconst (v := (1 : Int32)) hx hb dX6_reaches_66 (by decide) ?_
        refine lv_iadd hx hb dX6_reaches_67 ?_
        refine M_mp10 hC hinX6 hK hw (List.mem_of_getElem? (i := 3) rfl) dX6_reaches_68 (fun S16 H locs eS16 hw => ?_)
        replace h := h S16 eS16
        refine lv_aload_n hx hb dX6_reaches_71 rfl (lv_at hl 0 rfl) ?_
        refine M_mg11 hC hinX6 hK hw (List.mem_of_getElem? (i := 4) rfl) dX6_reaches_72 ?_
        obtain ⟨J17, hJ18, h⟩ := h
        have join19 : ∀  (H : Heap) (locs : List Loc) (ls : Array Slot), J17 () → Wd g.1 A s.heap ((wM g q) (S16, J)) H locs → lv_has ls 5 [(0, .ref (q 0)), (2, .int a2)] → W p l e (rmm 2 43) s m args below meth c H locs 0 0 Q (F0 m 93 ls []) := by
          intro  H locs ls h hw hl
          replace h := hJ18 () h
          refine lv_aload_n hx hb dX6_reaches_93 rfl (lv_at hl 0 rfl) ?_
          refine lv_aload_n hx hb dX6_reaches_94 rfl (lv_at hl 0 rfl) ?_
          refine M_mg8 hC hinX6 hK hw (List.mem_of_getElem? (i := 5) rfl) dX6_reaches_95 ?_
          refine lv_iload_n hx hb dX6_reaches_98 rfl (lv_at hl 1 rfl) ?_
          refine lv_iconst (v := (1 : Int32)) hx hb dX6_reaches_99 (by decide) ?_
          refine lv_isub hx hb dX6_reaches_100 ?_
          obtain ⟨hi, h⟩ := h
          refine M_ml8 hC hK hw hi dX6_reaches_101 ?_
          refine M_mp11 hC hinX6 hK hw (List.mem_of_getElem? (i := 4) rfl) dX6_reaches_102 (fun S20 H locs eS20 hw => ?_)
          replace h := h S20 eS20
          refine lv_aload_n hx hb dX6_reaches_105 rfl (lv_at hl 0 rfl) ?_
          refine lv_iload_n hx hb dX6_reaches_106 rfl (lv_at hl 1 rfl) ?_
          refine M_mp13 hC hinX6 hK hw (List.mem_of_getElem? (i := 6) rfl) dX6_reaches_107 (fun S21 H locs eS21 hw => ?_)
          replace h := h S21 eS21
          refine lv_iconst (v := (0 : Int32)) hx hb dX6_reaches_110 (by decide) ?_
          refine lv_istore (lv' := [(4, .int (0 : Int32)), (0, .ref (q 0)), (2, .int a2)]) hx hb dX6_reaches_111 hl (by decide) rfl (fun ls hl => ?_)
          refine h (fun z => match z with | (x22, S23) => ∀ (H : Heap) (locs : List Loc) (ls : Array Slot), Wd g.1 A s.heap ((wM g q) (S23, J)) H locs → lv_has ls 5 [(0, .ref (q 0)), (2, .int a2), (4, .int x22)] → W p l e (rmm 2 43) s m args below meth c H locs 0 0 Q (F0 m 113 ls [])) ?_ _ _ _ hw (lv_sub hl [1, 2, 0] rfl)
          clear h hw hl
          rintro ⟨x22, S23⟩ h H locs ls hw hl
          refine lv_iload hx hb dX6_reaches_113 (lv_at hl 2 rfl) ?_
          refine lv_iload_n hx hb dX6_reaches_115 rfl (lv_at hl 1 rfl) ?_
          refine lv_icmp_ge (tgt := 139) hx hb dX6_reaches_116 (by decide) (fun c33 => ?_) (fun c33 => ?_)
          · replace h := h.1 c33
            rw [hQ]
            exact mretv (w := (wM g q)) (u := (S23, J)) hC hr hlocks hK hw ⟨rfl, h⟩ dX6_reaches_139
          · replace h := h.2 c33
            refine lv_aload_n hx hb dX6_reaches_119 rfl (lv_at hl 0 rfl) ?_
            refine M_mg9 hC hinX6 hK hw (List.mem_of_getElem? (i := 7) rfl) dX6_reaches_120 ?_
            refine lv_iload hx hb dX6_reaches_123 (lv_at hl 2 rfl) ?_
            refine lv_aload_n hx hb dX6_reaches_125 rfl (lv_at hl 0 rfl) ?_
            refine M_mg5 hC hinX6 hK hw (List.mem_of_getElem? (i := 1) rfl) dX6_reaches_126 ?_
            refine lv_iload hx hb dX6_reaches_129 (lv_at hl 2 rfl) ?_
            obtain ⟨hi, h⟩ := h
            refine M_ml5 hC hK hw hi dX6_reaches_131 ?_
            obtain ⟨hi, h⟩ := h
            refine M_ms9 hC hK hw hi dX6_reaches_132 (fun S30 H locs eS30 hw => ?_)
            replace h := h S30 eS30
            obtain ⟨x31, ex31⟩ : ∃ y : Int32, y = x22 + (1 : Int32) := ⟨_, rfl⟩
            refine lv_iinc (v := x31) (lv' := [(4, .int x31), (0, .ref (q 0)), (2, .int a2)]) hx hb dX6_reaches_133 hl (k := 2) rfl (by rw [ex31]; rfl) (by decide) rfl (fun ls hl => ?_)
            replace h := h x31 ex31
            refine lv_goto (tgt := 113) hx hb dX6_reaches_136 (by decide) ?_
            exact h _ _ _ hw (lv_sub hl [1, 2, 0] rfl)
        refine lv_if_lt (tgt := 93) hx hb dX6_reaches_75 (by decide) (fun c35 => ?_) (fun c35 => ?_)
        · replace h := h.1 c35
          exact join19  _ _ _ h hw (lv_sub hl [0, 2] rfl)
        · replace h := h.2 c35
          refine lv_aload_n hx hb dX6_reaches_78 rfl (lv_at hl 0 rfl) ?_
          refine M_mg8 hC hinX6 hK hw (List.mem_of_getElem? (i := 5) rfl) dX6_reaches_79 ?_
          refine lv_iload_n hx hb dX6_reaches_82 rfl (lv_at hl 2 rfl) ?_
          refine lv_iconst (v := (1 : Int32)) hx hb dX6_reaches_83 (by decide) ?_
          refine lv_isub hx hb dX6_reaches_84 ?_
          obtain ⟨hi, h⟩ := h
          refine M_ml8 hC hK hw hi dX6_reaches_85 ?_
          refine lv_aload_n hx hb dX6_reaches_86 rfl (lv_at hl 0 rfl) ?_
          refine M_mg11 hC hinX6 hK hw (List.mem_of_getElem? (i := 4) rfl) dX6_reaches_87 ?_
          refine lv_icmp_ge (tgt := 139) hx hb dX6_reaches_90 (by decide) (fun c34 => ?_) (fun c34 => ?_)
          · replace h := h.1 c34
            rw [hQ]
            exact mretv (w := (wM g q)) (u := (S16, J)) hC hr hlocks hK hw ⟨rfl, h⟩ dX6_reaches_139
          · replace h := h.2 c34
            exact join19  _ _ _ h hw (lv_sub hl [0, 2] rfl)
    refine lv_icmp_le (tgt := 42) hx hb dX6_reaches_35 (by decide) (fun c37 => ?_) (fun c37 => ?_)
    · replace h := h.1 c37
      refine lv_aload_n hx hb dX6_reaches_42 rfl (lv_at hl 0 rfl) ?_
      refine M_mg12 hC hinX6 hK hw (List.mem_of_getElem? (i := 2) rfl) dX6_reaches_43 ?_
      exact join10 (S 0 12) _ _ _ h hw (lv_sub hl [0, 1, 2] rfl)
    · replace h := h.2 c37
      refine lv_iload_n hx hb dX6_reaches_38 rfl (lv_at hl 2 rfl) ?_
      refine lv_goto (tgt := 46) hx hb dX6_reaches_39 (by decide) ?_
      exact join10 a2 _ _ _ h hw (lv_sub hl [0, 1, 2] rfl)
  refine lv_if_lt (tgt := 29) hx hb dX6_reaches_15 (by decide) (fun c41 => ?_) (fun c41 => ?_)
  · replace h := h.1 c41
    exact join6  _ _ _ h hw (lv_sub hl [1, 2, 3] rfl)
  · replace h := h.2 c41
    refine lv_aload_n hx hb dX6_reaches_18 rfl (lv_at hl 1 rfl) ?_
    refine lv_iload_n hx hb dX6_reaches_19 rfl (lv_at hl 2 rfl) ?_
    refine lv_iconst (v := (3 : Int32)) hx hb dX6_reaches_20 (by decide) ?_
    refine mcalli (w1 := (wM g q)) (va_runV (As := [.int a1, .int (3 : Int32)]) (rest := []) hC (kX6_its l g  q H.size S J a1 (3 : Int32) _ h) (cwV 2 hts gX6_reaches_X6_its rfl rfl rfl (by decide +kernel) ⟨Nat.le_of_ble_eq_true rfl, Nat.le_of_ble_eq_true rfl⟩) (mpreV E0_ok hK hE hA hw (Sub1.refl _) 0 rfl rfl) rfl rfl hl.1 rfl (lv_room (Nat.le_of_ble_eq_true rfl)) dX6_reaches_21 ⟨Nat.zero_le _, Nat.zero_le _⟩) hA hw (Sub1.refl _) (fun _ => Sub.whole rfl) (fun r38 u39 H locs h hw => ?_)
    obtain ⟨hu, h⟩ := h
    replace hu := hu.symm
    subst hu
    refine lv_iload_n hx hb dX6_reaches_24 rfl (lv_at hl 0 rfl) ?_
    refine lv_icmp_eq (tgt := 29) hx hb dX6_reaches_25 (by decide) (fun c40 => ?_) (fun c40 => ?_)
    · replace h := h.1 c40
      exact join6  _ _ _ h hw (lv_sub hl [1, 2, 3] rfl)
    · replace h := h.2 c40
      rw [hQ]
      exact mretv (w := (wM g q)) (u := (S, J)) hC hr hlocks hK hw ⟨rfl, h⟩ dX6_reaches_28
def wX6_begins (S : Bun) (J : Lon) (a1 : Int32) (a2 : Int32) (a3 : Int32) (post : Bun → Prop) : Prop :=
  wX6_earth S J a2 (fun r1 => ∀ x3 : Int32, x3 = (1 : Int32) <<< (a3 &&& 31) → vp_in (0 : Int32) 16 ∧ ∀ S4 : Bun, S4 = up S 6 (0 : Int32).toNatClampNeg a3 → vp_in (0 : Int32) 16 ∧ ∀ S5 : Bun, S5 = up S4 7 (0 : Int32).toNatClampNeg (-1 : Int32) → vp_in (0 : Int32) 16 ∧ ∀ S6 : Bun, S6 = up S5 8 (0 : Int32).toNatClampNeg (0 : Int32) → vp_in (0 : Int32) 16 ∧ ∀ S7 : Bun, S7 = up S6 9 (0 : Int32).toNatClampNeg (0 : Int32) → wX6_reaches S7 J a2 (1 : Int32) (fun S10 => wloop (σ := Int32 × Int32 × Bun) (fun K15 z => match z with | (x12, x13, S14) => ((x13 ≤ 0 → post S14) ∧ (¬ (x13 ≤ 0) → ∀ x21 : Int32, x21 = x13 - (1 : Int32) → vp_in x21 16 ∧ (((S14 8 x21.toNatClampNeg) = (4 : Int32) → vp_in x21 16 ∧ ∀ x60 : Int32, x60 = x12 &&& (((1 : Int32) <<< ((S14 6 x21.toNatClampNeg) &&& 31)) ^^^ (-1 : Int32)) → ∀ x61 : Int32, x61 = x13 + (-1 : Int32) → K15 (x60, x61, S14)) ∧ (¬ ((S14 8 x21.toNatClampNeg) = (4 : Int32)) → vp_in x21 16 ∧ wX6_direction (S14 8 x21.toNatClampNeg) (fun r22 => vp_in x21 16 ∧ vp_in x21 16 ∧ ∀ S24 : Bun, S24 = up S14 8 x21.toNatClampNeg ((S14 8 x21.toNatClampNeg) + (1 : Int32)) → vp_in x21 16 ∧ wX6_beside (S24 6 x21.toNatClampNeg) r22 (fun r25 => wjoin (σ := Int32) (fun y27 => ((r25 < 0 → K15 (x12, x13, S24)) ∧ (¬ (r25 < 0) → wX6_has (r1 &&& (x12 ^^^ (-1 : Int32))) r25 (fun r32 => ((r32 = 0 → K15 (x12, x13, S24)) ∧ (¬ (r32 = 0) → vp_in x21 16 ∧ wX6_mayGo S24 J a1 a2 r25 (S24 7 x21.toNatClampNeg) r22 y27 (fun r35 => ((r35 = 0 → K15 (x12, x13, S24)) ∧ (¬ (r35 = 0) → vp_in x13 16 ∧ ∀ S38 : Bun, S38 = up S24 6 x13.toNatClampNeg r25 → vp_in x13 16 ∧ ∀ S39 : Bun, S39 = up S38 7 x13.toNatClampNeg r22 → vp_in x13 16 ∧ ∀ S40 : Bun, S40 = up S39 8 x13.toNatClampNeg (0 : Int32) → vp_in x21 16 ∧ vp_in x21 16 ∧ wjoin (σ := Int32) (fun y41 => vp_in x13 16 ∧ ∀ S45 : Bun, S45 = up S40 9 x13.toNatClampNeg ((S40 9 x21.toNatClampNeg) + y41) → ∀ x46 : Int32, x46 = x12 ||| ((1 : Int32) <<< (r25 &&& 31)) → ∀ x47 : Int32, x47 = x13 + (1 : Int32) → wX6_reaches S45 J a2 x47 (fun S50 => K15 (x46, x47, S50))) (fun J42 => (((S40 7 x21.toNatClampNeg) < 0 → J42 (0 : Int32)) ∧ (¬ ((S40 7 x21.toNatClampNeg) < 0) → vp_in x21 16 ∧ (((S40 7 x21.toNatClampNeg) = r22 → J42 (0 : Int32)) ∧ (¬ ((S40 7 x21.toNatClampNeg) = r22) → J42 (1 : Int32))))))))))))))) (fun J28 => ((x21 ≤ 0 → J28 (0 : Int32)) ∧ (¬ (x21 ≤ 0) → vp_in x21 16 ∧ vp_in (x21 - (1 : Int32)) 16 ∧ (((S24 9 x21.toNatClampNeg) ≤ (S24 9 (x21 - (1 : Int32)).toNatClampNeg) → J28 (0 : Int32)) ∧ (¬ ((S24 9 x21.toNatClampNeg) ≤ (S24 9 (x21 - (1 : Int32)).toNatClampNeg)) → J28 (1 : Int32))))))))))))) (x3, (1 : Int32), S10)))
set_option maxRecDepth 100000 in
set_option maxHeartbeats 4000000 in
theorem kX6_begins (l : Launch) (g : Gl)  (q : Nat → Nat) (sz : Nat) (S : Bun) (J : Lon) (a1 : Int32) (a2 : Int32) (a3 : Int32) (post : Bun → Prop) (h : wX6_begins S J a1 a2 a3 post) : Met l yX6_begins wsX6_begins (rmm 3 75) (wPc g E0 ((wM g q) (S, J)) sz [.ref (q 0), .int a1, .int a2, .int a3]) (va_Qv (fun (u : Bun × Lon) => u.2 = J ∧ post u.1) (wB g (wM g q) (va_A ((wM g q) (S, J)) sz)) (va_A ((wM g q) (S, J)) sz)) 0 0 (va_A ((wM g q) (S, J)) sz) := by
  refine mstart (Qf := fun A => va_Qv (fun (u : Bun × Lon) => u.2 = J ∧ post u.1) (wB g (wM g q) A) A) (by decide) rfl (Nat.le_of_ble_eq_true rfl) ?_
  intro p e s m args below meth c A Q H locs ls hC hr hlocks hname hQ hA hK hE hw hl
  have hC : CallFix p m c cX6_begins 11 s args wsX6_begins RX6 := hC
  obtain ⟨hx, hb, -, hown, hts⟩ := id hC
  have hl : lv_has ls 11 [(0, .ref (q 0)), (1, .int a1), (2, .int a2), (3, .int a3)] := hl
  rw [wX6_begins] at h
  have hinX6 : ∀ w ∈ wsX60, w ∈ wsX6_begins := fun w hw9 => List.mem_cons_of_mem _ (List.mem_append_right _ hw9)
  refine lv_aload_n hx hb dX6_begins_0 rfl (lv_at hl 0 rfl) ?_
  refine lv_iload_n hx hb dX6_begins_1 rfl (lv_at hl 2 rfl) ?_
  refine mcalli (w1 := (wM g q)) (va_runV (As := [.int a2]) (rest := []) hC (kX6_earth l g  q H.size S J a2 _ h) (cwV 1 hts gX6_begins_X6_earth rfl rfl rfl (by decide +kernel) ⟨Nat.le_of_ble_eq_true rfl, Nat.le_of_ble_eq_true rfl⟩) (mpreV E0_ok hK hE hA hw (Sub1.refl _) 0 rfl rfl) rfl rfl hl.1 rfl (lv_room (Nat.le_of_ble_eq_true rfl)) dX6_begins_2 ⟨Nat.zero_le _, Nat.zero_le _⟩) hA hw (Sub1.refl _) (fun _ => Sub.whole rfl) (fun r1 u2 H locs h hw => ?_)
  obtain ⟨hu, h⟩ := h
  replace hu := hu.symm
  subst hu
  refine lv_istore (lv' := [(4, .int r1), (0, .ref (q 0)), (1, .int a1), (2, .int a2), (3, .int a3)]) hx hb dX6_begins_5 hl (by decide) rfl (fun ls hl => ?_)
  refine lv_iconst (v := (1 : Int32)) hx hb dX6_begins_7 (by decide) ?_
  refine lv_iload_n hx hb dX6_begins_8 rfl (lv_at hl 4 rfl) ?_
  refine lv_ishl hx hb dX6_begins_9 ?_
  refine lv_topi (fun x3 ex3 => ?_)
  replace h := h x3 ex3
  refine lv_istore (lv' := [(5, .int x3), (4, .int r1), (0, .ref (q 0)), (1, .int a1), (2, .int a2), (3, .int a3)]) hx hb dX6_begins_10 hl (by decide) rfl (fun ls hl => ?_)
  refine lv_iconst (v := (1 : Int32)) hx hb dX6_begins_12 (by decide) ?_
  refine lv_istore (lv' := [(6, .int (1 : Int32)), (5, .int x3), (4, .int r1), (0, .ref (q 0)), (1, .int a1), (2, .int a2), (3, .int a3)]) hx hb dX6_begins_13 hl (by decide) rfl (fun ls hl => ?_)
  refine lv_aload_n hx hb dX6_begins_15 rfl (lv_at hl 3 rfl) ?_
  refine M_mg5 hC hinX6 hK hw (List.mem_of_getElem? (i := 1) rfl) dX6_begins_16 ?_
  refine lv_iconst (v := (0 : Int32)) hx hb dX6_begins_19 (by decide) ?_
  refine lv_iload_n hx hb dX6_begins_20 rfl (lv_at hl 6 rfl) ?_
  obtain ⟨hi, h⟩ := h
  refine M_ms5 hC hK hw hi dX6_begins_21 (fun S4 H locs eS4 hw => ?_)
  replace h := h S4 eS4
  refine lv_aload_n hx hb dX6_begins_22 rfl (lv_at hl 3 rfl) ?_
  refine M_mg6 hC hinX6 hK hw (List.mem_of_getElem? (i := 2) rfl) dX6_begins_23 ?_
  refine lv_iconst (v := (0 : Int32)) hx hb dX6_begins_26 (by decide) ?_
  refine lv_iconst (v := (-1 : Int32)) hx hb dX6_begins_27 (by decide) ?_
  obtain ⟨hi, h⟩ := h
  refine M_ms6 hC hK hw hi dX6_begins_28 (fun S5 H locs eS5 hw => ?_)
  replace h := h S5 eS5
  refine lv_aload_n hx hb dX6_begins_29 rfl (lv_at hl 3 rfl) ?_
  refine M_mg7 hC hinX6 hK hw (List.mem_of_getElem? (i := 3) rfl) dX6_begins_30 ?_
  refine lv_iconst (v := (0 : Int32)) hx hb dX6_begins_33 (by decide) ?_
  refine lv_iconst (v := (0 : Int32)) hx hb dX6_begins_34 (by decide) ?_
  obtain ⟨hi, h⟩ := h
  refine M_ms7 hC hK hw hi dX6_begins_35 (fun S6 H locs eS6 hw => ?_)
  replace h := h S6 eS6
  refine lv_aload_n hx hb dX6_begins_36 rfl (lv_at hl 3 rfl) ?_
  refine M_mg8 hC hinX6 hK hw (List.mem_of_getElem? (i := 4) rfl) dX6_begins_37 ?_
  refine lv_iconst (v := (0 : Int32)) hx hb dX6_begins_40 (by decide) ?_
  refine lv_iconst (v := (0 : Int32)) hx hb dX6_begins_41 (by decide) ?_
  obtain ⟨hi, h⟩ := h
  refine M_ms8 hC hK hw hi dX6_begins_42 (fun S7 H locs eS7 hw => ?_)
  replace h := h S7 eS7
  refine lv_aload_n hx hb dX6_begins_43 rfl (lv_at hl 3 rfl) ?_
  refine lv_iload_n hx hb dX6_begins_44 rfl (lv_at hl 5 rfl) ?_
  refine lv_iconst (v := (1 : Int32)) hx hb dX6_begins_45 (by decide) ?_
  refine mcallv (w1 := (wM g q)) (va_runV (As := [.int a2, .int (1 : Int32)]) (rest := []) hC (kX6_reaches l g  q H.size S7 J a2 (1 : Int32) _ h) (cwV 2 hts gX6_begins_X6_reaches rfl rfl rfl (by decide +kernel) ⟨Nat.le_of_ble_eq_true rfl, Nat.le_of_ble_eq_true rfl⟩) (mpreV E0_ok hK hE hA hw (Sub1.refl _) 0 rfl rfl) rfl rfl hl.1 rfl (lv_room (Nat.le_of_ble_eq_true rfl)) dX6_begins_46 ⟨Nat.zero_le _, Nat.zero_le _⟩) hA hw (Sub1.refl _) (fun _ => Sub.whole rfl) (fun u9 H locs h hw => ?_)
  obtain ⟨S10, J11⟩ := u9
  obtain ⟨hu, h⟩ := h
  replace hu : J = J11 := hu.symm
  subst hu
  refine h (fun z => match z with | (x12, x13, S14) => ∀ (H : Heap) (locs : List Loc) (ls : Array Slot), Wd g.1 A s.heap ((wM g q) (S14, J)) H locs → lv_has ls 11 [(0, .ref (q 0)), (1, .int a1), (2, .int a2), (4, .int r1), (5, .int x12), (6, .int x13)] → W p l e (rmm 3 75) s m args below meth c H locs 0 0 Q (F0 m 49 ls [])) ?_ _ _ _ hw (lv_sub hl [3, 4, 5, 2, 1, 0] rfl)
  clear h hw hl
  rintro ⟨x12, x13, S14⟩ h H locs ls hw hl
  refine lv_iload hx hb dX6_begins_49 (lv_at hl 5 rfl) ?_
  refine lv_if_le (tgt := 293) hx hb dX6_begins_51 (by decide) (fun c64 => ?_) (fun c64 => ?_)
  · replace h := h.1 c64
    rw [hQ]
    exact mretv (w := (wM g q)) (u := (S14, J)) hC hr hlocks hK hw ⟨rfl, h⟩ dX6_begins_293
  · replace h := h.2 c64
    refine lv_iload hx hb dX6_begins_54 (lv_at hl 5 rfl) ?_
    refine lv_iconst (v := (1 : Int32)) hx hb dX6_begins_56 (by decide) ?_
    refine lv_isub hx hb dX6_begins_57 ?_
    refine lv_topi (fun x21 ex21 => ?_)
    replace h := h x21 ex21
    refine lv_istore (lv' := [(7, .int x21), (0, .ref (q 0)), (1, .int a1), (2, .int a2), (4, .int r1), (5, .int x12), (6, .int x13)]) hx hb dX6_begins_58 hl (by decide) rfl (fun ls hl => ?_)
    refine lv_aload_n hx hb dX6_begins_60 rfl (lv_at hl 1 rfl) ?_
    refine M_mg7 hC hinX6 hK hw (List.mem_of_getElem? (i := 3) rfl) dX6_begins_61 ?_
    refine lv_iload hx hb dX6_begins_64 (lv_at hl 0 rfl) ?_
    obtain ⟨hi, h⟩ := h
    refine M_ml7 hC hK hw hi dX6_begins_66 ?_
    refine lv_iconst (v := (4 : Int32)) hx hb dX6_begins_67 (by decide) ?_
    refine lv_icmp_ne (tgt := 93) hx hb dX6_begins_68 (by decide) (fun c63 => ?_) (fun c63 => ?_)
    · replace h := h.2 c63
      refine lv_aload_n hx hb dX6_begins_93 rfl (lv_at hl 1 rfl) ?_
      refine M_mg7 hC hinX6 hK hw (List.mem_of_getElem? (i := 3) rfl) dX6_begins_94 ?_
      refine lv_iload hx hb dX6_begins_97 (lv_at hl 0 rfl) ?_
      obtain ⟨hi, h⟩ := h
      refine M_ml7 hC hK hw hi dX6_begins_99 ?_
      refine mcalli (w1 := (fun _ => (wM g q) (S14, J))) (wc := fun _ : Unit => ([] : va_W)) (u := ()) (va_runS (As := [.int (S14 8 x21.toNatClampNeg)]) (rest := []) hC (kX6_direction l g  H.size (S14 8 x21.toNatClampNeg) _ h) (va_cwS 1 hts gX6_begins_X6_direction rfl rfl rfl (by decide +kernel) ⟨Nat.le_of_ble_eq_true rfl, Nat.le_of_ble_eq_true rfl⟩) (mpre E0_ok hK hE hA hw (Sub1.nil _)) rfl rfl hl.1 rfl (lv_room (Nat.le_of_ble_eq_true rfl)) dX6_begins_100 ⟨Nat.zero_le _, Nat.zero_le _⟩) hA hw (Sub1.nil _) (fun _ => Sub.nil _) (fun r22 u23 H locs h hw => ?_)
      obtain ⟨_, h⟩ := h
      refine lv_istore (lv' := [(8, .int r22), (7, .int x21), (0, .ref (q 0)), (1, .int a1), (2, .int a2), (4, .int r1), (5, .int x12), (6, .int x13)]) hx hb dX6_begins_103 hl (by decide) rfl (fun ls hl => ?_)
      refine lv_aload_n hx hb dX6_begins_105 rfl (lv_at hl 2 rfl) ?_
      refine M_mg7 hC hinX6 hK hw (List.mem_of_getElem? (i := 3) rfl) dX6_begins_106 ?_
      refine lv_iload hx hb dX6_begins_109 (lv_at hl 1 rfl) ?_
      refine lv_dup2_11 hx hb dX6_begins_111 rfl rfl ?_
      obtain ⟨hi, h⟩ := h
      refine M_ml7 hC hK hw hi dX6_begins_112 ?_
      refine lv_iconst (v := (1 : Int32)) hx hb dX6_begins_113 (by decide) ?_
      refine lv_iadd hx hb dX6_begins_114 ?_
      obtain ⟨hi, h⟩ := h
      refine M_ms7 hC hK hw hi dX6_begins_115 (fun S24 H locs eS24 hw => ?_)
      replace h := h S24 eS24
      refine lv_aload_n hx hb dX6_begins_116 rfl (lv_at hl 2 rfl) ?_
      refine M_mg5 hC hinX6 hK hw (List.mem_of_getElem? (i := 1) rfl) dX6_begins_117 ?_
      refine lv_iload hx hb dX6_begins_120 (lv_at hl 1 rfl) ?_
      obtain ⟨hi, h⟩ := h
      refine M_ml5 hC hK hw hi dX6_begins_122 ?_
      refine lv_iload hx hb dX6_begins_123 (lv_at hl 0 rfl) ?_
      refine mcalli (w1 := (fun _ => (wM g q) (S24, J))) (wc := fun _ : Unit => ([] : va_W)) (u := ()) (va_runS (As := [.int (S24 6 x21.toNatClampNeg), .int r22]) (rest := []) hC (kX6_beside l g  H.size (S24 6 x21.toNatClampNeg) r22 _ h) (va_cwS 2 hts gX6_begins_X6_beside rfl rfl rfl (by decide +kernel) ⟨Nat.le_of_ble_eq_true rfl, Nat.le_of_ble_eq_true rfl⟩) (mpre E0_ok hK hE hA hw (Sub1.nil _)) rfl rfl hl.1 rfl (lv_room (Nat.le_of_ble_eq_true rfl)) dX6_begins_125 ⟨Nat.zero_le _, Nat.zero_le _⟩) hA hw (Sub1.nil _) (fun _ => Sub.nil _) (fun r25 u26 H locs h hw => ?_)
      obtain ⟨_, h⟩ := h
      refine lv_istore (lv' := [(9, .int r25), (8, .int r22), (7, .int x21), (0, .ref (q 0)), (1, .int a1), (2, .int a2), (4, .int r1), (5, .int x12), (6, .int x13)]) hx hb dX6_begins_128 hl (by decide) rfl (fun ls hl => ?_)
      refine lv_iload hx hb dX6_begins_130 (lv_at hl 2 rfl) ?_
      obtain ⟨J28, hJ29, h⟩ := h
      have join30 : ∀ (y27 : Int32) (H : Heap) (locs : List Loc) (ls : Array Slot), J28 y27 → Wd g.1 A s.heap ((wM g q) (S24, J)) H locs → lv_has ls 11 [(0, .ref (q 0)), (1, .int a1), (2, .int a2), (4, .int r1), (5, .int x12), (6, .int x13), (7, .int x21), (8, .int r22), (9, .int r25)] → W p l e (rmm 3 75) s m args below meth c H locs 0 0 Q (F0 m 159 ls [.int y27]) := by
        intro y27 H locs ls h hw hl
        replace h := hJ29 y27 h
        refine lv_istore (lv' := [(10, .int y27), (0, .ref (q 0)), (1, .int a1), (2, .int a2), (4, .int r1), (5, .int x12), (6, .int x13), (7, .int x21), (8, .int r22), (9, .int r25)]) hx hb dX6_begins_159 hl (by decide) rfl (fun ls hl => ?_)
        refine lv_iload hx hb dX6_begins_161 (lv_at hl 9 rfl) ?_
        refine lv_if_lt (tgt := 290) hx hb dX6_begins_163 (by decide) (fun c57 => ?_) (fun c57 => ?_)
        · replace h := h.1 c57
          refine lv_goto (tgt := 49) hx hb dX6_begins_290 (by decide) ?_
          exact h _ _ _ hw (lv_sub hl [1, 2, 3, 4, 5, 6] rfl)
        · replace h := h.2 c57
          refine lv_iload hx hb dX6_begins_166 (lv_at hl 4 rfl) ?_
          refine lv_iload hx hb dX6_begins_168 (lv_at hl 5 rfl) ?_
          refine lv_iconst (v := (-1 : Int32)) hx hb dX6_begins_170 (by decide) ?_
          refine lv_ixor hx hb dX6_begins_171 ?_
          refine lv_iand hx hb dX6_begins_172 ?_
          refine lv_iload hx hb dX6_begins_173 (lv_at hl 9 rfl) ?_
          refine mcalli (w1 := (fun _ => (wM g q) (S24, J))) (wc := fun _ : Unit => ([] : va_W)) (u := ()) (va_runS (As := [.int (r1 &&& (x12 ^^^ (-1 : Int32))), .int r25]) (rest := []) hC (kX6_has l g  H.size (r1 &&& (x12 ^^^ (-1 : Int32))) r25 _ h) (va_cwS 2 hts gX6_begins_X6_has rfl rfl rfl (by decide +kernel) ⟨Nat.le_of_ble_eq_true rfl, Nat.le_of_ble_eq_true rfl⟩) (mpre E0_ok hK hE hA hw (Sub1.nil _)) rfl rfl hl.1 rfl (lv_room (Nat.le_of_ble_eq_true rfl)) dX6_begins_175 ⟨Nat.zero_le _, Nat.zero_le _⟩) hA hw (Sub1.nil _) (fun _ => Sub.nil _) (fun r32 u33 H locs h hw => ?_)
          obtain ⟨_, h⟩ := h
          refine lv_if_eq (tgt := 290) hx hb dX6_begins_178 (by decide) (fun c56 => ?_) (fun c56 => ?_)
          · replace h := h.1 c56
            refine lv_goto (tgt := 49) hx hb dX6_begins_290 (by decide) ?_
            exact h _ _ _ hw (lv_sub hl [1, 2, 3, 4, 5, 6] rfl)
          · replace h := h.2 c56
            refine lv_aload_n hx hb dX6_begins_181 rfl (lv_at hl 1 rfl) ?_
            refine lv_iload_n hx hb dX6_begins_182 rfl (lv_at hl 2 rfl) ?_
            refine lv_iload_n hx hb dX6_begins_183 rfl (lv_at hl 3 rfl) ?_
            refine lv_iload hx hb dX6_begins_184 (lv_at hl 9 rfl) ?_
            refine lv_aload_n hx hb dX6_begins_186 rfl (lv_at hl 1 rfl) ?_
            refine M_mg6 hC hinX6 hK hw (List.mem_of_getElem? (i := 2) rfl) dX6_begins_187 ?_
            refine lv_iload hx hb dX6_begins_190 (lv_at hl 7 rfl) ?_
            obtain ⟨hi, h⟩ := h
            refine M_ml6 hC hK hw hi dX6_begins_192 ?_
            refine lv_iload hx hb dX6_begins_193 (lv_at hl 8 rfl) ?_
            refine lv_iload hx hb dX6_begins_195 (lv_at hl 0 rfl) ?_
            refine mcalli (w1 := (wM g q)) (va_runV (As := [.int a1, .int a2, .int r25, .int (S24 7 x21.toNatClampNeg), .int r22, .int y27]) (rest := []) hC (kX6_mayGo l g  q H.size S24 J a1 a2 r25 (S24 7 x21.toNatClampNeg) r22 y27 _ h) (cwV 6 hts gX6_begins_X6_mayGo rfl rfl rfl (by decide +kernel) ⟨Nat.le_of_ble_eq_true rfl, Nat.le_of_ble_eq_true rfl⟩) (mpreV E0_ok hK hE hA hw (Sub1.refl _) 0 rfl rfl) rfl rfl hl.1 rfl (lv_room (Nat.le_of_ble_eq_true rfl)) dX6_begins_197 ⟨Nat.zero_le _, Nat.zero_le _⟩) hA hw (Sub1.refl _) (fun _ => Sub.whole rfl) (fun r35 u36 H locs h hw => ?_)
            obtain ⟨hu, h⟩ := h
            replace hu := hu.symm
            subst hu
            refine lv_if_eq (tgt := 290) hx hb dX6_begins_200 (by decide) (fun c55 => ?_) (fun c55 => ?_)
            · replace h := h.1 c55
              refine lv_goto (tgt := 49) hx hb dX6_begins_290 (by decide) ?_
              exact h _ _ _ hw (lv_sub hl [1, 2, 3, 4, 5, 6] rfl)
            · replace h := h.2 c55
              refine lv_aload_n hx hb dX6_begins_203 rfl (lv_at hl 1 rfl) ?_
              refine M_mg5 hC hinX6 hK hw (List.mem_of_getElem? (i := 1) rfl) dX6_begins_204 ?_
              refine lv_iload hx hb dX6_begins_207 (lv_at hl 6 rfl) ?_
              refine lv_iload hx hb dX6_begins_209 (lv_at hl 9 rfl) ?_
              obtain ⟨hi, h⟩ := h
              refine M_ms5 hC hK hw hi dX6_begins_211 (fun S38 H locs eS38 hw => ?_)
              replace h := h S38 eS38
              refine lv_aload_n hx hb dX6_begins_212 rfl (lv_at hl 1 rfl) ?_
              refine M_mg6 hC hinX6 hK hw (List.mem_of_getElem? (i := 2) rfl) dX6_begins_213 ?_
              refine lv_iload hx hb dX6_begins_216 (lv_at hl 6 rfl) ?_
              refine lv_iload hx hb dX6_begins_218 (lv_at hl 8 rfl) ?_
              obtain ⟨hi, h⟩ := h
              refine M_ms6 hC hK hw hi dX6_begins_220 (fun S39 H locs eS39 hw => ?_)
              replace h := h S39 eS39
              refine lv_aload_n hx hb dX6_begins_221 rfl (lv_at hl 1 rfl) ?_
              refine M_mg7 hC hinX6 hK hw (List.mem_of_getElem? (i := 3) rfl) dX6_begins_222 ?_
              refine lv_iload hx hb dX6_begins_225 (lv_at hl 6 rfl) ?_
              refine lv_iconst (v := (0 : Int32)) hx hb dX6_begins_227 (by decide) ?_
              obtain ⟨hi, h⟩ := h
              refine M_ms7 hC hK hw hi dX6_begins_228 (fun S40 H locs eS40 hw => ?_)
              replace h := h S40 eS40
              refine lv_aload_n hx hb dX6_begins_229 rfl (lv_at hl 1 rfl) ?_
              refine M_mg8 hC hinX6 hK hw (List.mem_of_getElem? (i := 4) rfl) dX6_begins_230 ?_
              refine lv_iload hx hb dX6_begins_233 (lv_at hl 6 rfl) ?_
              refine lv_aload_n hx hb dX6_begins_235 rfl (lv_at hl 1 rfl) ?_
              refine M_mg8 hC hinX6 hK hw (List.mem_of_getElem? (i := 4) rfl) dX6_begins_236 ?_
              refine lv_iload hx hb dX6_begins_239 (lv_at hl 7 rfl) ?_
              obtain ⟨hi, h⟩ := h
              refine M_ml8 hC hK hw hi dX6_begins_241 ?_
              refine lv_aload_n hx hb dX6_begins_242 rfl (lv_at hl 1 rfl) ?_
              refine M_mg6 hC hinX6 hK hw (List.mem_of_getElem? (i := 2) rfl) dX6_begins_243 ?_
              refine lv_iload hx hb dX6_begins_246 (lv_at hl 7 rfl) ?_
              obtain ⟨hi, h⟩ := h
              refine M_ml6 hC hK hw hi dX6_begins_248 ?_
              obtain ⟨J42, hJ43, h⟩ := h
              have join44 : ∀ (y41 : Int32) (H : Heap) (locs : List Loc) (ls : Array Slot), J42 y41 → Wd g.1 A s.heap ((wM g q) (S40, J)) H locs → lv_has ls 11 [(0, .ref (q 0)), (1, .int a1), (2, .int a2), (4, .int r1), (5, .int x12), (6, .int x13), (9, .int r25)] → W p l e (rmm 3 75) s m args below meth c H locs 0 0 Q (F0 m 269 ls [.int y41, .int (S40 9 x21.toNatClampNeg), .int x13, .ref (q 9)]) := by
                intro y41 H locs ls h hw hl
                replace h := hJ43 y41 h
                refine lv_iadd hx hb dX6_begins_269 ?_
                obtain ⟨hi, h⟩ := h
                refine M_ms8 hC hK hw hi dX6_begins_270 (fun S45 H locs eS45 hw => ?_)
                replace h := h S45 eS45
                refine lv_iload hx hb dX6_begins_271 (lv_at hl 4 rfl) ?_
                refine lv_iconst (v := (1 : Int32)) hx hb dX6_begins_273 (by decide) ?_
                refine lv_iload hx hb dX6_begins_274 (lv_at hl 6 rfl) ?_
                refine lv_ishl hx hb dX6_begins_276 ?_
                refine lv_ior hx hb dX6_begins_277 ?_
                refine lv_topi (fun x46 ex46 => ?_)
                replace h := h x46 ex46
                refine lv_istore (lv' := [(5, .int x46), (0, .ref (q 0)), (1, .int a1), (2, .int a2), (4, .int r1), (6, .int x13), (9, .int r25)]) hx hb dX6_begins_278 hl (by decide) rfl (fun ls hl => ?_)
                obtain ⟨x47, ex47⟩ : ∃ y : Int32, y = x13 + (1 : Int32) := ⟨_, rfl⟩
                refine lv_iinc (v := x47) (lv' := [(6, .int x47), (5, .int x46), (0, .ref (q 0)), (1, .int a1), (2, .int a2), (4, .int r1), (9, .int r25)]) hx hb dX6_begins_280 hl (k := 5) rfl (by rw [ex47]; rfl) (by decide) rfl (fun ls hl => ?_)
                replace h := h x47 ex47
                refine lv_aload_n hx hb dX6_begins_283 rfl (lv_at hl 2 rfl) ?_
                refine lv_iload_n hx hb dX6_begins_284 rfl (lv_at hl 4 rfl) ?_
                refine lv_iload hx hb dX6_begins_285 (lv_at hl 0 rfl) ?_
                refine mcallv (w1 := (wM g q)) (va_runV (As := [.int a2, .int x47]) (rest := []) hC (kX6_reaches l g  q H.size S45 J a2 x47 _ h) (cwV 2 hts gX6_begins_X6_reaches rfl rfl rfl (by decide +kernel) ⟨Nat.le_of_ble_eq_true rfl, Nat.le_of_ble_eq_true rfl⟩) (mpreV E0_ok hK hE hA hw (Sub1.refl _) 0 rfl rfl) rfl rfl hl.1 rfl (lv_room (Nat.le_of_ble_eq_true rfl)) dX6_begins_287 ⟨Nat.zero_le _, Nat.zero_le _⟩) hA hw (Sub1.refl _) (fun _ => Sub.whole rfl) (fun u49 H locs h hw => ?_)
                obtain ⟨S50, J51⟩ := u49
                obtain ⟨hu, h⟩ := h
                replace hu : J = J51 := hu.symm
                subst hu
                refine lv_goto (tgt := 49) hx hb dX6_begins_290 (by decide) ?_
                exact h _ _ _ hw (lv_sub hl [2, 3, 4, 5, 1, 0] rfl)
              refine lv_if_lt (tgt := 268) hx hb dX6_begins_249 (by decide) (fun c54 => ?_) (fun c54 => ?_)
              · replace h := h.1 c54
                refine lv_iconst (v := (0 : Int32)) hx hb dX6_begins_268 (by decide) ?_
                exact join44 (0 : Int32) _ _ _ h hw (lv_sub hl [1, 2, 3, 4, 5, 6, 9] rfl)
              · replace h := h.2 c54
                refine lv_aload_n hx hb dX6_begins_252 rfl (lv_at hl 1 rfl) ?_
                refine M_mg6 hC hinX6 hK hw (List.mem_of_getElem? (i := 2) rfl) dX6_begins_253 ?_
                refine lv_iload hx hb dX6_begins_256 (lv_at hl 7 rfl) ?_
                obtain ⟨hi, h⟩ := h
                refine M_ml6 hC hK hw hi dX6_begins_258 ?_
                refine lv_iload hx hb dX6_begins_259 (lv_at hl 8 rfl) ?_
                refine lv_icmp_eq (tgt := 268) hx hb dX6_begins_261 (by decide) (fun c53 => ?_) (fun c53 => ?_)
                · replace h := h.1 c53
                  refine lv_iconst (v := (0 : Int32)) hx hb dX6_begins_268 (by decide) ?_
                  exact join44 (0 : Int32) _ _ _ h hw (lv_sub hl [1, 2, 3, 4, 5, 6, 9] rfl)
                · replace h := h.2 c53
                  refine lv_iconst (v := (1 : Int32)) hx hb dX6_begins_264 (by decide) ?_
                  refine lv_goto (tgt := 269) hx hb dX6_begins_265 (by decide) ?_
                  exact join44 (1 : Int32) _ _ _ h hw (lv_sub hl [1, 2, 3, 4, 5, 6, 9] rfl)
      refine lv_if_le (tgt := 158) hx hb dX6_begins_132 (by decide) (fun c59 => ?_) (fun c59 => ?_)
      · replace h := h.1 c59
        refine lv_iconst (v := (0 : Int32)) hx hb dX6_begins_158 (by decide) ?_
        exact join30 (0 : Int32) _ _ _ h hw (lv_sub hl [3, 4, 5, 6, 7, 8, 2, 1, 0] rfl)
      · replace h := h.2 c59
        refine lv_aload_n hx hb dX6_begins_135 rfl (lv_at hl 3 rfl) ?_
        refine M_mg8 hC hinX6 hK hw (List.mem_of_getElem? (i := 4) rfl) dX6_begins_136 ?_
        refine lv_iload hx hb dX6_begins_139 (lv_at hl 2 rfl) ?_
        obtain ⟨hi, h⟩ := h
        refine M_ml8 hC hK hw hi dX6_begins_141 ?_
        refine lv_aload_n hx hb dX6_begins_142 rfl (lv_at hl 3 rfl) ?_
        refine M_mg8 hC hinX6 hK hw (List.mem_of_getElem? (i := 4) rfl) dX6_begins_143 ?_
        refine lv_iload hx hb dX6_begins_146 (lv_at hl 2 rfl) ?_
        refine lv_iconst (v := (1 : Int32)) hx hb dX6_begins_148 (by decide) ?_
        refine lv_isub hx hb dX6_begins_149 ?_
        obtain ⟨hi, h⟩ := h
        refine M_ml8 hC hK hw hi dX6_begins_150 ?_
        refine lv_icmp_le (tgt := 158) hx hb dX6_begins_151 (by decide) (fun c58 => ?_) (fun c58 => ?_)
        · replace h := h.1 c58
          refine lv_iconst (v := (0 : Int32)) hx hb dX6_begins_158 (by decide) ?_
          exact join30 (0 : Int32) _ _ _ h hw (lv_sub hl [3, 4, 5, 6, 7, 8, 2, 1, 0] rfl)
        · replace h := h.2 c58
          refine lv_iconst (v := (1 : Int32)) hx hb dX6_begins_154 (by decide) ?_
          refine lv_goto (tgt := 159) hx hb dX6_begins_155 (by decide) ?_
          exact join30 (1 : Int32) _ _ _ h hw (lv_sub hl [3, 4, 5, 6, 7, 8, 2, 1, 0] rfl)
    · replace h := h.1 c63
      refine lv_iload hx hb dX6_begins_71 (lv_at hl 5 rfl) ?_
      refine lv_iconst (v := (1 : Int32)) hx hb dX6_begins_73 (by decide) ?_
      refine lv_aload_n hx hb dX6_begins_74 rfl (lv_at hl 1 rfl) ?_
      refine M_mg5 hC hinX6 hK hw (List.mem_of_getElem? (i := 1) rfl) dX6_begins_75 ?_
      refine lv_iload hx hb dX6_begins_78 (lv_at hl 0 rfl) ?_
      obtain ⟨hi, h⟩ := h
      refine M_ml5 hC hK hw hi dX6_begins_80 ?_
      refine lv_ishl hx hb dX6_begins_81 ?_
      refine lv_iconst (v := (-1 : Int32)) hx hb dX6_begins_82 (by decide) ?_
      refine lv_ixor hx hb dX6_begins_83 ?_
      refine lv_iand hx hb dX6_begins_84 ?_
      refine lv_topi (fun x60 ex60 => ?_)
      replace h := h x60 ex60
      refine lv_istore (lv' := [(5, .int x60), (7, .int x21), (0, .ref (q 0)), (1, .int a1), (2, .int a2), (4, .int r1), (6, .int x13)]) hx hb dX6_begins_85 hl (by decide) rfl (fun ls hl => ?_)
      obtain ⟨x61, ex61⟩ : ∃ y : Int32, y = x13 + (-1 : Int32) := ⟨_, rfl⟩
      refine lv_iinc (v := x61) (lv' := [(6, .int x61), (5, .int x60), (7, .int x21), (0, .ref (q 0)), (1, .int a1), (2, .int a2), (4, .int r1)]) hx hb dX6_begins_87 hl (k := 6) rfl (by rw [ex61]; rfl) (by decide) rfl (fun ls hl => ?_)
      replace h := h x61 ex61
      refine lv_goto (tgt := 290) hx hb dX6_begins_90 (by decide) ?_
      refine lv_goto (tgt := 49) hx hb dX6_begins_290 (by decide) ?_
      exact h _ _ _ hw (lv_sub hl [3, 4, 5, 6, 1, 0] rfl)
def wX6_isGate (S : Bun) (J : Lon) (a1 : Int32) (a2 : Int32) (post : Int32 → Prop) : Prop :=
  wX6_its S J a1 a2 (fun r1 => ((r1 < 0 → post (1 : Int32)) ∧ (¬ (r1 < 0) → wX6_earth S J a1 (fun r3 => wX6_its S J a1 a2 (fun r5 => wX6_has r3 r5 (fun r7 => ((r7 = 0 → post (0 : Int32)) ∧ (¬ (r7 = 0) → post (1 : Int32)))))))))
set_option maxRecDepth 100000 in
set_option maxHeartbeats 4000000 in
theorem kX6_isGate (l : Launch) (g : Gl)  (q : Nat → Nat) (sz : Nat) (S : Bun) (J : Lon) (a1 : Int32) (a2 : Int32) (post : Int32 → Prop) (h : wX6_isGate S J a1 a2 post) : Met l yX6_isGate wsX6_isGate (rmm 2 43) (wPc g E0 ((wM g q) (S, J)) sz [.ref (q 0), .int a1, .int a2]) (va_Qi (fun (r : Int32) (u : Bun × Lon) => u = (S, J) ∧ post r) (wB g (wM g q) (va_A ((wM g q) (S, J)) sz)) (va_A ((wM g q) (S, J)) sz)) 0 0 (va_A ((wM g q) (S, J)) sz) := by
  refine mstart (Qf := fun A => va_Qi (fun (r : Int32) (u : Bun × Lon) => u = (S, J) ∧ post r) (wB g (wM g q) A) A) (by decide) rfl (Nat.le_of_ble_eq_true rfl) ?_
  intro p e s m args below meth c A Q H locs ls hC hr hlocks hname hQ hA hK hE hw hl
  have hC : CallFix p m c cX6_isGate 3 s args wsX6_isGate RX6 := hC
  obtain ⟨hx, hb, -, hown, hts⟩ := id hC
  have hl : lv_has ls 3 [(0, .ref (q 0)), (1, .int a1), (2, .int a2)] := hl
  rw [wX6_isGate] at h
  refine lv_aload_n hx hb dX6_isGate_0 rfl (lv_at hl 0 rfl) ?_
  refine lv_iload_n hx hb dX6_isGate_1 rfl (lv_at hl 1 rfl) ?_
  refine lv_iload_n hx hb dX6_isGate_2 rfl (lv_at hl 2 rfl) ?_
  refine mcalli (w1 := (wM g q)) (va_runV (As := [.int a1, .int a2]) (rest := []) hC (kX6_its l g  q H.size S J a1 a2 _ h) (cwV 2 hts gX6_isGate_X6_its rfl rfl rfl (by decide +kernel) ⟨Nat.le_of_ble_eq_true rfl, Nat.le_of_ble_eq_true rfl⟩) (mpreV E0_ok hK hE hA hw (Sub1.refl _) 0 rfl rfl) rfl rfl hl.1 rfl (lv_room (Nat.le_of_ble_eq_true rfl)) dX6_isGate_3 ⟨Nat.zero_le _, Nat.zero_le _⟩) hA hw (Sub1.refl _) (fun _ => Sub.whole rfl) (fun r1 u2 H locs h hw => ?_)
  obtain ⟨hu, h⟩ := h
  replace hu := hu.symm
  subst hu
  refine lv_if_lt (tgt := 26) hx hb dX6_isGate_6 (by decide) (fun c10 => ?_) (fun c10 => ?_)
  · replace h := h.1 c10
    refine lv_iconst (v := (1 : Int32)) hx hb dX6_isGate_26 (by decide) ?_
    refine lv_goto (tgt := 31) hx hb dX6_isGate_27 (by decide) ?_
    rw [hQ]
    exact mretz (w := (wM g q)) (u := (S, J)) hC hr hlocks hK hw (Or.inr rfl) ⟨rfl, h⟩ dX6_isGate_31
  · replace h := h.2 c10
    refine lv_aload_n hx hb dX6_isGate_9 rfl (lv_at hl 0 rfl) ?_
    refine lv_iload_n hx hb dX6_isGate_10 rfl (lv_at hl 1 rfl) ?_
    refine mcalli (w1 := (wM g q)) (va_runV (As := [.int a1]) (rest := []) hC (kX6_earth l g  q H.size S J a1 _ h) (cwV 1 hts gX6_isGate_X6_earth rfl rfl rfl (by decide +kernel) ⟨Nat.le_of_ble_eq_true rfl, Nat.le_of_ble_eq_true rfl⟩) (mpreV E0_ok hK hE hA hw (Sub1.refl _) 0 rfl rfl) rfl rfl hl.1 rfl (lv_room (Nat.le_of_ble_eq_true rfl)) dX6_isGate_11 ⟨Nat.zero_le _, Nat.zero_le _⟩) hA hw (Sub1.refl _) (fun _ => Sub.whole rfl) (fun r3 u4 H locs h hw => ?_)
    obtain ⟨hu, h⟩ := h
    replace hu := hu.symm
    subst hu
    refine lv_aload_n hx hb dX6_isGate_14 rfl (lv_at hl 0 rfl) ?_
    refine lv_iload_n hx hb dX6_isGate_15 rfl (lv_at hl 1 rfl) ?_
    refine lv_iload_n hx hb dX6_isGate_16 rfl (lv_at hl 2 rfl) ?_
    refine mcalli (w1 := (wM g q)) (va_runV (As := [.int a1, .int a2]) (rest := [.int r3]) hC (kX6_its l g  q H.size S J a1 a2 _ h) (cwV 2 hts gX6_isGate_X6_its rfl rfl rfl (by decide +kernel) ⟨Nat.le_of_ble_eq_true rfl, Nat.le_of_ble_eq_true rfl⟩) (mpreV E0_ok hK hE hA hw (Sub1.refl _) 0 rfl rfl) rfl rfl hl.1 rfl (lv_room (Nat.le_of_ble_eq_true rfl)) dX6_isGate_17 ⟨Nat.zero_le _, Nat.zero_le _⟩) hA hw (Sub1.refl _) (fun _ => Sub.whole rfl) (fun r5 u6 H locs h hw => ?_)
    obtain ⟨hu, h⟩ := h
    replace hu := hu.symm
    subst hu
    refine mcalli (w1 := (fun _ => (wM g q) (S, J))) (wc := fun _ : Unit => ([] : va_W)) (u := ()) (va_runS (As := [.int r3, .int r5]) (rest := []) hC (kX6_has l g  H.size r3 r5 _ h) (va_cwS 2 hts gX6_isGate_X6_has rfl rfl rfl (by decide +kernel) ⟨Nat.le_of_ble_eq_true rfl, Nat.le_of_ble_eq_true rfl⟩) (mpre E0_ok hK hE hA hw (Sub1.nil _)) rfl rfl hl.1 rfl (lv_room (Nat.le_of_ble_eq_true rfl)) dX6_isGate_20 ⟨Nat.zero_le _, Nat.zero_le _⟩) hA hw (Sub1.nil _) (fun _ => Sub.nil _) (fun r7 u8 H locs h hw => ?_)
    obtain ⟨_, h⟩ := h
    refine lv_if_eq (tgt := 30) hx hb dX6_isGate_23 (by decide) (fun c9 => ?_) (fun c9 => ?_)
    · replace h := h.1 c9
      refine lv_iconst (v := (0 : Int32)) hx hb dX6_isGate_30 (by decide) ?_
      rw [hQ]
      exact mretz (w := (wM g q)) (u := (S, J)) hC hr hlocks hK hw (Or.inl rfl) ⟨rfl, h⟩ dX6_isGate_31
    · replace h := h.2 c9
      refine lv_iconst (v := (1 : Int32)) hx hb dX6_isGate_26 (by decide) ?_
      refine lv_goto (tgt := 31) hx hb dX6_isGate_27 (by decide) ?_
      rw [hQ]
      exact mretz (w := (wM g q)) (u := (S, J)) hC hr hlocks hK hw (Or.inr rfl) ⟨rfl, h⟩ dX6_isGate_31
def wX6_furrows (S : Bun) (J : Lon) (a1 : Int32) (a2 : Int32) (post : Bun → Prop) : Prop :=
  ∀ S1 : Bun, S1 = up S 0 10 (0 : Int32) → ∀ S2 : Bun, S2 = up S1 0 11 (-1 : Int32) → ∀ S3 : Bun, S3 = up S2 0 13 (0 : Int32) → ∀ S4 : Bun, S4 = up S3 0 12 (0 : Int32) → wX6_isGate S4 J a2 (2 : Int32) (fun r5 => ((r5 = 0 → post S4) ∧ (¬ (r5 = 0) → wX6_isGate S4 J a2 (3 : Int32) (fun r7 => ((r7 = 0 → post S4) ∧ (¬ (r7 = 0) → wloop (σ := Int32 × Bun) (fun K11 z => match z with | (x9, S10) => (((16 : Int32) ≤ x9 → post S10) ∧ (¬ ((16 : Int32) ≤ x9) → wX6_earth S10 J a2 (fun r17 => wX6_has r17 x9 (fun r19 => ((r19 = 0 → ∀ x21 : Int32, x21 = x9 + (1 : Int32) → K11 (x21, S10)) ∧ (¬ (r19 = 0) → wX6_its S10 J a2 (2 : Int32) (fun r23 => wjoin (σ := Unit) (fun _ => wX6_begins S10 J a1 a2 x9 (fun S30 => ∀ x32 : Int32, x32 = x9 + (1 : Int32) → K11 (x32, S30))) (fun J25 => ((r23 < 0 → J25 ()) ∧ (¬ (r23 < 0) → wX6_its S10 J a2 (2 : Int32) (fun r34 => ((r34 = x9 → J25 ()) ∧ (¬ (r34 = x9) → ∀ x36 : Int32, x36 = x9 + (1 : Int32) → K11 (x36, S10))))))))))))))) ((0 : Int32), S4)))))))
set_option maxRecDepth 100000 in
set_option maxHeartbeats 4000000 in
theorem kX6_furrows (l : Launch) (g : Gl)  (q : Nat → Nat) (sz : Nat) (S : Bun) (J : Lon) (a1 : Int32) (a2 : Int32) (post : Bun → Prop) (h : wX6_furrows S J a1 a2 post) : Met l yX6_furrows wsX6_furrows (rmm 4 105) (wPc g E0 ((wM g q) (S, J)) sz [.ref (q 0), .int a1, .int a2]) (va_Qv (fun (u : Bun × Lon) => u.2 = J ∧ post u.1) (wB g (wM g q) (va_A ((wM g q) (S, J)) sz)) (va_A ((wM g q) (S, J)) sz)) 0 0 (va_A ((wM g q) (S, J)) sz) := by
  refine mstart (Qf := fun A => va_Qv (fun (u : Bun × Lon) => u.2 = J ∧ post u.1) (wB g (wM g q) A) A) (by decide) rfl (Nat.le_of_ble_eq_true rfl) ?_
  intro p e s m args below meth c A Q H locs ls hC hr hlocks hname hQ hA hK hE hw hl
  have hC : CallFix p m c cX6_furrows 4 s args wsX6_furrows RX6 := hC
  obtain ⟨hx, hb, -, hown, hts⟩ := id hC
  have hl : lv_has ls 4 [(0, .ref (q 0)), (1, .int a1), (2, .int a2)] := hl
  rw [wX6_furrows] at h
  have hinX6 : ∀ w ∈ wsX60, w ∈ wsX6_furrows := fun w hw9 => List.mem_cons_of_mem _ (List.mem_append_right _ hw9)
  refine lv_aload_n hx hb dX6_furrows_0 rfl (lv_at hl 0 rfl) ?_
  refine lv_iconst (v := (0 : Int32)) hx hb dX6_furrows_1 (by decide) ?_
  refine M_mp10 hC hinX6 hK hw (List.mem_of_getElem? (i := 1) rfl) dX6_furrows_2 (fun S1 H locs eS1 hw => ?_)
  replace h := h S1 eS1
  refine lv_aload_n hx hb dX6_furrows_5 rfl (lv_at hl 0 rfl) ?_
  refine lv_iconst (v := (-1 : Int32)) hx hb dX6_furrows_6 (by decide) ?_
  refine M_mp11 hC hinX6 hK hw (List.mem_of_getElem? (i := 2) rfl) dX6_furrows_7 (fun S2 H locs eS2 hw => ?_)
  replace h := h S2 eS2
  refine lv_aload_n hx hb dX6_furrows_10 rfl (lv_at hl 0 rfl) ?_
  refine lv_iconst (v := (0 : Int32)) hx hb dX6_furrows_11 (by decide) ?_
  refine M_mp13 hC hinX6 hK hw (List.mem_of_getElem? (i := 3) rfl) dX6_furrows_12 (fun S3 H locs eS3 hw => ?_)
  replace h := h S3 eS3
  refine lv_aload_n hx hb dX6_furrows_15 rfl (lv_at hl 0 rfl) ?_
  refine lv_iconst (v := (0 : Int32)) hx hb dX6_furrows_16 (by decide) ?_
  refine M_mp12 hC hinX6 hK hw (List.mem_of_getElem? (i := 4) rfl) dX6_furrows_17 (fun S4 H locs eS4 hw => ?_)
  replace h := h S4 eS4
  refine lv_aload_n hx hb dX6_furrows_20 rfl (lv_at hl 0 rfl) ?_
  refine lv_iload_n hx hb dX6_furrows_21 rfl (lv_at hl 2 rfl) ?_
  refine lv_iconst (v := (2 : Int32)) hx hb dX6_furrows_22 (by decide) ?_
  refine mcalli (w1 := (wM g q)) (va_runV (As := [.int a2, .int (2 : Int32)]) (rest := []) hC (kX6_isGate l g  q H.size S4 J a2 (2 : Int32) _ h) (cwV 2 hts gX6_furrows_X6_isGate rfl rfl rfl (by decide +kernel) ⟨Nat.le_of_ble_eq_true rfl, Nat.le_of_ble_eq_true rfl⟩) (mpreV E0_ok hK hE hA hw (Sub1.refl _) 0 rfl rfl) rfl rfl hl.1 rfl (lv_room (Nat.le_of_ble_eq_true rfl)) dX6_furrows_23 ⟨Nat.zero_le _, Nat.zero_le _⟩) hA hw (Sub1.refl _) (fun _ => Sub.whole rfl) (fun r5 u6 H locs h hw => ?_)
  obtain ⟨hu, h⟩ := h
  replace hu := hu.symm
  subst hu
  refine lv_if_eq (tgt := 90) hx hb dX6_furrows_26 (by decide) (fun c43 => ?_) (fun c43 => ?_)
  · replace h := h.1 c43
    rw [hQ]
    exact mretv (w := (wM g q)) (u := (S4, J)) hC hr hlocks hK hw ⟨rfl, h⟩ dX6_furrows_90
  · replace h := h.2 c43
    refine lv_aload_n hx hb dX6_furrows_29 rfl (lv_at hl 0 rfl) ?_
    refine lv_iload_n hx hb dX6_furrows_30 rfl (lv_at hl 2 rfl) ?_
    refine lv_iconst (v := (3 : Int32)) hx hb dX6_furrows_31 (by decide) ?_
    refine mcalli (w1 := (wM g q)) (va_runV (As := [.int a2, .int (3 : Int32)]) (rest := []) hC (kX6_isGate l g  q H.size S4 J a2 (3 : Int32) _ h) (cwV 2 hts gX6_furrows_X6_isGate rfl rfl rfl (by decide +kernel) ⟨Nat.le_of_ble_eq_true rfl, Nat.le_of_ble_eq_true rfl⟩) (mpreV E0_ok hK hE hA hw (Sub1.refl _) 0 rfl rfl) rfl rfl hl.1 rfl (lv_room (Nat.le_of_ble_eq_true rfl)) dX6_furrows_32 ⟨Nat.zero_le _, Nat.zero_le _⟩) hA hw (Sub1.refl _) (fun _ => Sub.whole rfl) (fun r7 u8 H locs h hw => ?_)
    obtain ⟨hu, h⟩ := h
    replace hu := hu.symm
    subst hu
    refine lv_if_eq (tgt := 90) hx hb dX6_furrows_35 (by decide) (fun c42 => ?_) (fun c42 => ?_)
    · replace h := h.1 c42
      rw [hQ]
      exact mretv (w := (wM g q)) (u := (S4, J)) hC hr hlocks hK hw ⟨rfl, h⟩ dX6_furrows_90
    · replace h := h.2 c42
      refine lv_iconst (v := (0 : Int32)) hx hb dX6_furrows_38 (by decide) ?_
      refine lv_istore_n (lv' := [(3, .int (0 : Int32)), (0, .ref (q 0)), (1, .int a1), (2, .int a2)]) hx hb dX6_furrows_39 rfl hl (by decide) rfl (fun ls hl => ?_)
      refine h (fun z => match z with | (x9, S10) => ∀ (H : Heap) (locs : List Loc) (ls : Array Slot), Wd g.1 A s.heap ((wM g q) (S10, J)) H locs → lv_has ls 4 [(0, .ref (q 0)), (1, .int a1), (2, .int a2), (3, .int x9)] → W p l e (rmm 4 105) s m args below meth c H locs 0 0 Q (F0 m 40 ls [])) ?_ _ _ _ hw (lv_sub hl [1, 2, 3, 0] rfl)
      clear h hw hl
      rintro ⟨x9, S10⟩ h H locs ls hw hl
      refine lv_iload_n hx hb dX6_furrows_40 rfl (lv_at hl 3 rfl) ?_
      refine lv_bipush (v := (16 : Int32)) hx hb dX6_furrows_41 (by decide) ?_
      refine lv_icmp_ge (tgt := 90) hx hb dX6_furrows_43 (by decide) (fun c41 => ?_) (fun c41 => ?_)
      · replace h := h.1 c41
        rw [hQ]
        exact mretv (w := (wM g q)) (u := (S10, J)) hC hr hlocks hK hw ⟨rfl, h⟩ dX6_furrows_90
      · replace h := h.2 c41
        refine lv_aload_n hx hb dX6_furrows_46 rfl (lv_at hl 0 rfl) ?_
        refine lv_iload_n hx hb dX6_furrows_47 rfl (lv_at hl 2 rfl) ?_
        refine mcalli (w1 := (wM g q)) (va_runV (As := [.int a2]) (rest := []) hC (kX6_earth l g  q H.size S10 J a2 _ h) (cwV 1 hts gX6_furrows_X6_earth rfl rfl rfl (by decide +kernel) ⟨Nat.le_of_ble_eq_true rfl, Nat.le_of_ble_eq_true rfl⟩) (mpreV E0_ok hK hE hA hw (Sub1.refl _) 0 rfl rfl) rfl rfl hl.1 rfl (lv_room (Nat.le_of_ble_eq_true rfl)) dX6_furrows_48 ⟨Nat.zero_le _, Nat.zero_le _⟩) hA hw (Sub1.refl _) (fun _ => Sub.whole rfl) (fun r17 u18 H locs h hw => ?_)
        obtain ⟨hu, h⟩ := h
        replace hu := hu.symm
        subst hu
        refine lv_iload_n hx hb dX6_furrows_51 rfl (lv_at hl 3 rfl) ?_
        refine mcalli (w1 := (fun _ => (wM g q) (S10, J))) (wc := fun _ : Unit => ([] : va_W)) (u := ()) (va_runS (As := [.int r17, .int x9]) (rest := []) hC (kX6_has l g  H.size r17 x9 _ h) (va_cwS 2 hts gX6_furrows_X6_has rfl rfl rfl (by decide +kernel) ⟨Nat.le_of_ble_eq_true rfl, Nat.le_of_ble_eq_true rfl⟩) (mpre E0_ok hK hE hA hw (Sub1.nil _)) rfl rfl hl.1 rfl (lv_room (Nat.le_of_ble_eq_true rfl)) dX6_furrows_52 ⟨Nat.zero_le _, Nat.zero_le _⟩) hA hw (Sub1.nil _) (fun _ => Sub.nil _) (fun r19 u20 H locs h hw => ?_)
        obtain ⟨_, h⟩ := h
        refine lv_if_eq (tgt := 84) hx hb dX6_furrows_55 (by decide) (fun c40 => ?_) (fun c40 => ?_)
        · replace h := h.1 c40
          obtain ⟨x21, ex21⟩ : ∃ y : Int32, y = x9 + (1 : Int32) := ⟨_, rfl⟩
          refine lv_iinc (v := x21) (lv' := [(3, .int x21), (0, .ref (q 0)), (1, .int a1), (2, .int a2)]) hx hb dX6_furrows_84 hl (k := 3) rfl (by rw [ex21]; rfl) (by decide) rfl (fun ls hl => ?_)
          replace h := h x21 ex21
          refine lv_goto (tgt := 40) hx hb dX6_furrows_87 (by decide) ?_
          exact h _ _ _ hw (lv_sub hl [1, 2, 3, 0] rfl)
        · replace h := h.2 c40
          refine lv_aload_n hx hb dX6_furrows_58 rfl (lv_at hl 0 rfl) ?_
          refine lv_iload_n hx hb dX6_furrows_59 rfl (lv_at hl 2 rfl) ?_
          refine lv_iconst (v := (2 : Int32)) hx hb dX6_furrows_60 (by decide) ?_
          refine mcalli (w1 := (wM g q)) (va_runV (As := [.int a2, .int (2 : Int32)]) (rest := []) hC (kX6_its l g  q H.size S10 J a2 (2 : Int32) _ h) (cwV 2 hts gX6_furrows_X6_its rfl rfl rfl (by decide +kernel) ⟨Nat.le_of_ble_eq_true rfl, Nat.le_of_ble_eq_true rfl⟩) (mpreV E0_ok hK hE hA hw (Sub1.refl _) 0 rfl rfl) rfl rfl hl.1 rfl (lv_room (Nat.le_of_ble_eq_true rfl)) dX6_furrows_61 ⟨Nat.zero_le _, Nat.zero_le _⟩) hA hw (Sub1.refl _) (fun _ => Sub.whole rfl) (fun r23 u24 H locs h hw => ?_)
          obtain ⟨hu, h⟩ := h
          replace hu := hu.symm
          subst hu
          obtain ⟨J25, hJ26, h⟩ := h
          have join27 : ∀  (H : Heap) (locs : List Loc) (ls : Array Slot), J25 () → Wd g.1 A s.heap ((wM g q) (S10, J)) H locs → lv_has ls 4 [(0, .ref (q 0)), (1, .int a1), (2, .int a2), (3, .int x9)] → W p l e (rmm 4 105) s m args below meth c H locs 0 0 Q (F0 m 77 ls []) := by
            intro  H locs ls h hw hl
            replace h := hJ26 () h
            refine lv_aload_n hx hb dX6_furrows_77 rfl (lv_at hl 0 rfl) ?_
            refine lv_iload_n hx hb dX6_furrows_78 rfl (lv_at hl 1 rfl) ?_
            refine lv_iload_n hx hb dX6_furrows_79 rfl (lv_at hl 2 rfl) ?_
            refine lv_iload_n hx hb dX6_furrows_80 rfl (lv_at hl 3 rfl) ?_
            refine mcallv (w1 := (wM g q)) (va_runV (As := [.int a1, .int a2, .int x9]) (rest := []) hC (kX6_begins l g  q H.size S10 J a1 a2 x9 _ h) (cwV 3 hts gX6_furrows_X6_begins rfl rfl rfl (by decide +kernel) ⟨Nat.le_of_ble_eq_true rfl, Nat.le_of_ble_eq_true rfl⟩) (mpreV E0_ok hK hE hA hw (Sub1.refl _) 0 rfl rfl) rfl rfl hl.1 rfl (lv_room (Nat.le_of_ble_eq_true rfl)) dX6_furrows_81 ⟨Nat.zero_le _, Nat.zero_le _⟩) hA hw (Sub1.refl _) (fun _ => Sub.whole rfl) (fun u29 H locs h hw => ?_)
            obtain ⟨S30, J31⟩ := u29
            obtain ⟨hu, h⟩ := h
            replace hu : J = J31 := hu.symm
            subst hu
            obtain ⟨x32, ex32⟩ : ∃ y : Int32, y = x9 + (1 : Int32) := ⟨_, rfl⟩
            refine lv_iinc (v := x32) (lv' := [(3, .int x32), (0, .ref (q 0)), (1, .int a1), (2, .int a2)]) hx hb dX6_furrows_84 hl (k := 3) rfl (by rw [ex32]; rfl) (by decide) rfl (fun ls hl => ?_)
            replace h := h x32 ex32
            refine lv_goto (tgt := 40) hx hb dX6_furrows_87 (by decide) ?_
            exact h _ _ _ hw (lv_sub hl [1, 2, 3, 0] rfl)
          refine lv_if_lt (tgt := 77) hx hb dX6_furrows_64 (by decide) (fun c39 => ?_) (fun c39 => ?_)
          · replace h := h.1 c39
            exact join27  _ _ _ h hw (lv_sub hl [0, 1, 2, 3] rfl)
          · replace h := h.2 c39
            refine lv_aload_n hx hb dX6_furrows_67 rfl (lv_at hl 0 rfl) ?_
            refine lv_iload_n hx hb dX6_furrows_68 rfl (lv_at hl 2 rfl) ?_
            refine lv_iconst (v := (2 : Int32)) hx hb dX6_furrows_69 (by decide) ?_
            refine mcalli (w1 := (wM g q)) (va_runV (As := [.int a2, .int (2 : Int32)]) (rest := []) hC (kX6_its l g  q H.size S10 J a2 (2 : Int32) _ h) (cwV 2 hts gX6_furrows_X6_its rfl rfl rfl (by decide +kernel) ⟨Nat.le_of_ble_eq_true rfl, Nat.le_of_ble_eq_true rfl⟩) (mpreV E0_ok hK hE hA hw (Sub1.refl _) 0 rfl rfl) rfl rfl hl.1 rfl (lv_room (Nat.le_of_ble_eq_true rfl)) dX6_furrows_70 ⟨Nat.zero_le _, Nat.zero_le _⟩) hA hw (Sub1.refl _) (fun _ => Sub.whole rfl) (fun r34 u35 H locs h hw => ?_)
            obtain ⟨hu, h⟩ := h
            replace hu := hu.symm
            subst hu
            refine lv_iload_n hx hb dX6_furrows_73 rfl (lv_at hl 3 rfl) ?_
            refine lv_icmp_ne (tgt := 84) hx hb dX6_furrows_74 (by decide) (fun c38 => ?_) (fun c38 => ?_)
            · replace h := h.2 c38
              obtain ⟨x36, ex36⟩ : ∃ y : Int32, y = x9 + (1 : Int32) := ⟨_, rfl⟩
              refine lv_iinc (v := x36) (lv' := [(3, .int x36), (0, .ref (q 0)), (1, .int a1), (2, .int a2)]) hx hb dX6_furrows_84 hl (k := 3) rfl (by rw [ex36]; rfl) (by decide) rfl (fun ls hl => ?_)
              replace h := h x36 ex36
              refine lv_goto (tgt := 40) hx hb dX6_furrows_87 (by decide) ?_
              exact h _ _ _ hw (lv_sub hl [1, 2, 3, 0] rfl)
            · replace h := h.1 c38
              exact join27  _ _ _ h hw (lv_sub hl [0, 1, 2, 3] rfl)
def wX6_costOf (S : Bun) (J : Lon) (a1 : Int32) (a2 : Int32) (post : Int32 → Bun → Prop) : Prop :=
  wX6_furrows S J a1 a2 (fun S3 => ((0 ≤ (S3 0 11) → wX6_paceOf S3 J a1 (fun r5 => wX6_dear S3 J a1 (fun r7 => post ((r5 * (S3 0 13)) + (r7 * (S3 0 11))) S3))) ∧ (¬ (0 ≤ (S3 0 11)) → post (-1 : Int32) S3)))
set_option maxRecDepth 100000 in
set_option maxHeartbeats 4000000 in
theorem kX6_costOf (l : Launch) (g : Gl)  (q : Nat → Nat) (sz : Nat) (S : Bun) (J : Lon) (a1 : Int32) (a2 : Int32) (post : Int32 → Bun → Prop) (h : wX6_costOf S J a1 a2 post) : Met l yX6_costOf wsX6_costOf (rmm 5 128) (wPc g E0 ((wM g q) (S, J)) sz [.ref (q 0), .int a1, .int a2]) (va_Qi (fun (r : Int32) (u : Bun × Lon) => u.2 = J ∧ post r u.1) (wB g (wM g q) (va_A ((wM g q) (S, J)) sz)) (va_A ((wM g q) (S, J)) sz)) 0 0 (va_A ((wM g q) (S, J)) sz) := by
  refine mstart (Qf := fun A => va_Qi (fun (r : Int32) (u : Bun × Lon) => u.2 = J ∧ post r u.1) (wB g (wM g q) A) A) (by decide) rfl (Nat.le_of_ble_eq_true rfl) ?_
  intro p e s m args below meth c A Q H locs ls hC hr hlocks hname hQ hA hK hE hw hl
  have hC : CallFix p m c cX6_costOf 3 s args wsX6_costOf RX6 := hC
  obtain ⟨hx, hb, -, hown, hts⟩ := id hC
  have hl : lv_has ls 3 [(0, .ref (q 0)), (1, .int a1), (2, .int a2)] := hl
  rw [wX6_costOf] at h
  have hinX6 : ∀ w ∈ wsX60, w ∈ wsX6_costOf := fun w hw9 => List.mem_cons_of_mem _ (List.mem_append_right _ hw9)
  refine lv_aload_n hx hb dX6_costOf_0 rfl (lv_at hl 0 rfl) ?_
  refine lv_iload_n hx hb dX6_costOf_1 rfl (lv_at hl 1 rfl) ?_
  refine lv_iload_n hx hb dX6_costOf_2 rfl (lv_at hl 2 rfl) ?_
  refine mcallv (w1 := (wM g q)) (va_runV (As := [.int a1, .int a2]) (rest := []) hC (kX6_furrows l g  q H.size S J a1 a2 _ h) (cwV 2 hts gX6_costOf_X6_furrows rfl rfl rfl (by decide +kernel) ⟨Nat.le_of_ble_eq_true rfl, Nat.le_of_ble_eq_true rfl⟩) (mpreV E0_ok hK hE hA hw (Sub1.refl _) 0 rfl rfl) rfl rfl hl.1 rfl (lv_room (Nat.le_of_ble_eq_true rfl)) dX6_costOf_3 ⟨Nat.zero_le _, Nat.zero_le _⟩) hA hw (Sub1.refl _) (fun _ => Sub.whole rfl) (fun u2 H locs h hw => ?_)
  obtain ⟨S3, J4⟩ := u2
  obtain ⟨hu, h⟩ := h
  replace hu : J = J4 := hu.symm
  subst hu
  refine lv_aload_n hx hb dX6_costOf_6 rfl (lv_at hl 0 rfl) ?_
  refine M_mg11 hC hinX6 hK hw (List.mem_of_getElem? (i := 1) rfl) dX6_costOf_7 ?_
  refine lv_if_ge (tgt := 17) hx hb dX6_costOf_10 (by decide) (fun c9 => ?_) (fun c9 => ?_)
  · replace h := h.1 c9
    refine lv_aload_n hx hb dX6_costOf_17 rfl (lv_at hl 0 rfl) ?_
    refine lv_iload_n hx hb dX6_costOf_18 rfl (lv_at hl 1 rfl) ?_
    refine mcalli (w1 := (wM g q)) (va_runV (As := [.int a1]) (rest := []) hC (kX6_paceOf l g  q H.size S3 J a1 _ h) (cwV 1 hts gX6_costOf_X6_paceOf rfl rfl rfl (by decide +kernel) ⟨Nat.le_of_ble_eq_true rfl, Nat.le_of_ble_eq_true rfl⟩) (mpreV E0_ok hK hE hA hw (Sub1.refl _) 0 rfl rfl) rfl rfl hl.1 rfl (lv_room (Nat.le_of_ble_eq_true rfl)) dX6_costOf_19 ⟨Nat.zero_le _, Nat.zero_le _⟩) hA hw (Sub1.refl _) (fun _ => Sub.whole rfl) (fun r5 u6 H locs h hw => ?_)
    obtain ⟨hu, h⟩ := h
    replace hu := hu.symm
    subst hu
    refine lv_aload_n hx hb dX6_costOf_22 rfl (lv_at hl 0 rfl) ?_
    refine M_mg13 hC hinX6 hK hw (List.mem_of_getElem? (i := 2) rfl) dX6_costOf_23 ?_
    refine lv_imul hx hb dX6_costOf_26 ?_
    refine lv_aload_n hx hb dX6_costOf_27 rfl (lv_at hl 0 rfl) ?_
    refine lv_iload_n hx hb dX6_costOf_28 rfl (lv_at hl 1 rfl) ?_
    refine mcalli (w1 := (wM g q)) (va_runV (As := [.int a1]) (rest := [.int (r5 * (S3 0 13))]) hC (kX6_dear l g  q H.size S3 J a1 _ h) (cwV 1 hts gX6_costOf_X6_dear rfl rfl rfl (by decide +kernel) ⟨Nat.le_of_ble_eq_true rfl, Nat.le_of_ble_eq_true rfl⟩) (mpreV E0_ok hK hE hA hw (Sub1.refl _) 0 rfl rfl) rfl rfl hl.1 rfl (lv_room (Nat.le_of_ble_eq_true rfl)) dX6_costOf_29 ⟨Nat.zero_le _, Nat.zero_le _⟩) hA hw (Sub1.refl _) (fun _ => Sub.whole rfl) (fun r7 u8 H locs h hw => ?_)
    obtain ⟨hu, h⟩ := h
    replace hu := hu.symm
    subst hu
    refine lv_aload_n hx hb dX6_costOf_32 rfl (lv_at hl 0 rfl) ?_
    refine M_mg11 hC hinX6 hK hw (List.mem_of_getElem? (i := 1) rfl) dX6_costOf_33 ?_
    refine lv_imul hx hb dX6_costOf_36 ?_
    refine lv_iadd hx hb dX6_costOf_37 ?_
    rw [hQ]
    exact mreti (w := (wM g q)) (u := (S3, J)) hC hr hlocks hK hw ⟨rfl, h⟩ dX6_costOf_38
  · replace h := h.2 c9
    refine lv_iconst (v := (-1 : Int32)) hx hb dX6_costOf_13 (by decide) ?_
    refine lv_goto (tgt := 38) hx hb dX6_costOf_14 (by decide) ?_
    rw [hQ]
    exact mreti (w := (wM g q)) (u := (S3, J)) hC hr hlocks hK hw ⟨rfl, h⟩ dX6_costOf_38
def wX6_best (S : Bun) (J : Lon) (a1 : Int32) (a2 : Int32) (a3 : Int32) (post : Int32 → Bun → Prop) : Prop :=
  wX6_isTeam S J a1 (fun r1 => wjoin (σ := Unit) (fun _ => wX6_finds S J (-1000000001 : Int32) (fun r6 S8 => post r6 S8)) (fun J3 => ((r1 = 0 → J3 ()) ∧ (¬ (r1 = 0) → wX6_isField S J a2 (fun r10 => ((r10 = 0 → J3 ()) ∧ (¬ (r10 = 0) → wX6_in a3.toInt64 (-2 : Int64) (15 : Int64) (fun r12 => ((r12 = 0 → J3 ()) ∧ (¬ (r12 = 0) → wX6_costOf S J a1 a2 (fun r14 S16 => wjoin (σ := Unit) (fun _ => wX6_finds S16 J (-1000000004 : Int32) (fun r21 S23 => post r21 S23)) (fun J18 => ((r14 < 0 → J18 ()) ∧ (¬ (r14 < 0) → ((a3 < (S16 0 13) → ((a3 = (-1 : Int32) → post r14 S16) ∧ (¬ (a3 = (-1 : Int32)) → ((a3 = (-2 : Int32) → post (S16 0 11) S16) ∧ (¬ (a3 = (-2 : Int32)) → vp_in a3 16 ∧ post (S16 10 a3.toNatClampNeg) S16))))) ∧ (¬ (a3 < (S16 0 13)) → J18 ()))))))))))))))))
set_option maxRecDepth 100000 in
set_option maxHeartbeats 4000000 in
theorem kX6_best (l : Launch) (g : Gl)  (q : Nat → Nat) (sz : Nat) (S : Bun) (J : Lon) (a1 : Int32) (a2 : Int32) (a3 : Int32) (post : Int32 → Bun → Prop) (h : wX6_best S J a1 a2 a3 post) : Met l yX6_best wsX6_best (rmm 6 150) (wPc g E0 ((wM g q) (S, J)) sz [.ref (q 0), .int a1, .int a2, .int a3]) (va_Qi (fun (r : Int32) (u : Bun × Lon) => u.2 = J ∧ post r u.1) (wB g (wM g q) (va_A ((wM g q) (S, J)) sz)) (va_A ((wM g q) (S, J)) sz)) 0 0 (va_A ((wM g q) (S, J)) sz) := by
  refine mstart (Qf := fun A => va_Qi (fun (r : Int32) (u : Bun × Lon) => u.2 = J ∧ post r u.1) (wB g (wM g q) A) A) (by decide) rfl (Nat.le_of_ble_eq_true rfl) ?_
  intro p e s m args below meth c A Q H locs ls hC hr hlocks hname hQ hA hK hE hw hl
  have hC : CallFix p m c cX6_best 5 s args wsX6_best RX6 := hC
  obtain ⟨hx, hb, -, hown, hts⟩ := id hC
  have hl : lv_has ls 5 [(0, .ref (q 0)), (1, .int a1), (2, .int a2), (3, .int a3)] := hl
  rw [wX6_best] at h
  have hinX6 : ∀ w ∈ wsX60, w ∈ wsX6_best := fun w hw9 => List.mem_cons_of_mem _ (List.mem_append_right _ hw9)
  refine lv_aload_n hx hb dX6_best_0 rfl (lv_at hl 0 rfl) ?_
  refine lv_iload_n hx hb dX6_best_1 rfl (lv_at hl 1 rfl) ?_
  refine mcalli (w1 := (wM g q)) (va_runV (As := [.int a1]) (rest := []) hC (kX6_isTeam l g  q H.size S J a1 _ h) (cwV 1 hts gX6_best_X6_isTeam rfl rfl rfl (by decide +kernel) ⟨Nat.le_of_ble_eq_true rfl, Nat.le_of_ble_eq_true rfl⟩) (mpreV E0_ok hK hE hA hw (Sub1.refl _) 0 rfl rfl) rfl rfl hl.1 rfl (lv_room (Nat.le_of_ble_eq_true rfl)) dX6_best_2 ⟨Nat.zero_le _, Nat.zero_le _⟩) hA hw (Sub1.refl _) (fun _ => Sub.whole rfl) (fun r1 u2 H locs h hw => ?_)
  obtain ⟨hu, h⟩ := h
  replace hu := hu.symm
  subst hu
  obtain ⟨J3, hJ4, h⟩ := h
  have join5 : ∀  (H : Heap) (locs : List Loc) (ls : Array Slot), J3 () → Wd g.1 A s.heap ((wM g q) (S, J)) H locs → lv_has ls 5 [(0, .ref (q 0))] → W p l e (rmm 6 150) s m args below meth c H locs 0 0 Q (F0 m 30 ls []) := by
    intro  H locs ls h hw hl
    replace h := hJ4 () h
    refine lv_aload_n hx hb dX6_best_30 rfl (lv_at hl 0 rfl) ?_
    refine lv_ldc (v := (-1000000001 : Int32)) hx hb hown (hts (.constant RX6 68 (-1000000001)) (List.mem_of_getElem? (i := 3) rfl)) dX6_best_31 ?_
    refine mcalli (w1 := (wM g q)) (va_runV (As := [.int (-1000000001 : Int32)]) (rest := []) hC (kX6_finds l g  q H.size S J (-1000000001 : Int32) _ h) (cwV 1 hts gX6_best_X6_finds rfl rfl rfl (by decide +kernel) ⟨Nat.le_of_ble_eq_true rfl, Nat.le_of_ble_eq_true rfl⟩) (mpreV E0_ok hK hE hA hw (Sub1.refl _) 0 rfl rfl) rfl rfl hl.1 rfl (lv_room (Nat.le_of_ble_eq_true rfl)) dX6_best_33 ⟨Nat.zero_le _, Nat.zero_le _⟩) hA hw (Sub1.refl _) (fun _ => Sub.whole rfl) (fun r6 u7 H locs h hw => ?_)
    obtain ⟨S8, J9⟩ := u7
    obtain ⟨hu, h⟩ := h
    replace hu : J = J9 := hu.symm
    subst hu
    rw [hQ]
    exact mreti (w := (wM g q)) (u := (S8, J)) hC hr hlocks hK hw ⟨rfl, h⟩ dX6_best_36
  refine lv_if_eq (tgt := 30) hx hb dX6_best_5 (by decide) (fun c31 => ?_) (fun c31 => ?_)
  · replace h := h.1 c31
    exact join5  _ _ _ h hw (lv_sub hl [0] rfl)
  · replace h := h.2 c31
    refine lv_aload_n hx hb dX6_best_8 rfl (lv_at hl 0 rfl) ?_
    refine lv_iload_n hx hb dX6_best_9 rfl (lv_at hl 2 rfl) ?_
    refine mcalli (w1 := (wM g q)) (va_runV (As := [.int a2]) (rest := []) hC (kX6_isField l g  q H.size S J a2 _ h) (cwV 1 hts gX6_best_X6_isField rfl rfl rfl (by decide +kernel) ⟨Nat.le_of_ble_eq_true rfl, Nat.le_of_ble_eq_true rfl⟩) (mpreV E0_ok hK hE hA hw (Sub1.refl _) 0 rfl rfl) rfl rfl hl.1 rfl (lv_room (Nat.le_of_ble_eq_true rfl)) dX6_best_10 ⟨Nat.zero_le _, Nat.zero_le _⟩) hA hw (Sub1.refl _) (fun _ => Sub.whole rfl) (fun r10 u11 H locs h hw => ?_)
    obtain ⟨hu, h⟩ := h
    replace hu := hu.symm
    subst hu
    refine lv_if_eq (tgt := 30) hx hb dX6_best_13 (by decide) (fun c30 => ?_) (fun c30 => ?_)
    · replace h := h.1 c30
      exact join5  _ _ _ h hw (lv_sub hl [0] rfl)
    · replace h := h.2 c30
      refine lv_iload_n hx hb dX6_best_16 rfl (lv_at hl 3 rfl) ?_
      refine lv_i2l (v := a3.toInt64) hx hb dX6_best_17 rfl ?_
      refine lv_ldc2 (v := (-2 : Int64)) hx hb hown (hts (.constantLong RX6 183 (-2)) (List.mem_of_getElem? (i := 1) rfl)) dX6_best_18 ?_
      refine lv_ldc2 (v := (15 : Int64)) hx hb hown (hts (.constantLong RX6 140 (15)) (List.mem_of_getElem? (i := 2) rfl)) dX6_best_21 ?_
      refine mcalli (w1 := (fun _ => (wM g q) (S, J))) (wc := fun _ : Unit => ([] : va_W)) (u := ()) (va_runS (As := [.long a3.toInt64, .long (-2 : Int64), .long (15 : Int64)]) (rest := []) hC (kX6_in l g  H.size a3.toInt64 (-2 : Int64) (15 : Int64) _ h) (va_cwS 3 hts gX6_best_X6_in rfl rfl rfl (by decide +kernel) ⟨Nat.le_of_ble_eq_true rfl, Nat.le_of_ble_eq_true rfl⟩) (mpre E0_ok hK hE hA hw (Sub1.nil _)) rfl rfl hl.1 rfl (lv_room (Nat.le_of_ble_eq_true rfl)) dX6_best_24 ⟨Nat.zero_le _, Nat.zero_le _⟩) hA hw (Sub1.nil _) (fun _ => Sub.nil _) (fun r12 u13 H locs h hw => ?_)
      obtain ⟨_, h⟩ := h
      refine lv_if_ne (tgt := 37) hx hb dX6_best_27 (by decide) (fun c29 => ?_) (fun c29 => ?_)
      · replace h := h.2 c29
        refine lv_aload_n hx hb dX6_best_37 rfl (lv_at hl 0 rfl) ?_
        refine lv_iload_n hx hb dX6_best_38 rfl (lv_at hl 1 rfl) ?_
        refine lv_iload_n hx hb dX6_best_39 rfl (lv_at hl 2 rfl) ?_
        refine mcalli (w1 := (wM g q)) (va_runV (As := [.int a1, .int a2]) (rest := []) hC (kX6_costOf l g  q H.size S J a1 a2 _ h) (cwV 2 hts gX6_best_X6_costOf rfl rfl rfl (by decide +kernel) ⟨Nat.le_of_ble_eq_true rfl, Nat.le_of_ble_eq_true rfl⟩) (mpreV E0_ok hK hE hA hw (Sub1.refl _) 0 rfl rfl) rfl rfl hl.1 rfl (lv_room (Nat.le_of_ble_eq_true rfl)) dX6_best_40 ⟨Nat.zero_le _, Nat.zero_le _⟩) hA hw (Sub1.refl _) (fun _ => Sub.whole rfl) (fun r14 u15 H locs h hw => ?_)
        obtain ⟨S16, J17⟩ := u15
        obtain ⟨hu, h⟩ := h
        replace hu : J = J17 := hu.symm
        subst hu
        refine lv_istore (lv' := [(4, .int r14), (0, .ref (q 0)), (1, .int a1), (2, .int a2), (3, .int a3)]) hx hb dX6_best_43 hl (by decide) rfl (fun ls hl => ?_)
        refine lv_iload hx hb dX6_best_45 (lv_at hl 0 rfl) ?_
        obtain ⟨J18, hJ19, h⟩ := h
        have join20 : ∀  (H : Heap) (locs : List Loc) (ls : Array Slot), J18 () → Wd g.1 A s.heap ((wM g q) (S16, J)) H locs → lv_has ls 5 [(0, .ref (q 0))] → W p l e (rmm 6 150) s m args below meth c H locs 0 0 Q (F0 m 58 ls []) := by
          intro  H locs ls h hw hl
          replace h := hJ19 () h
          refine lv_aload_n hx hb dX6_best_58 rfl (lv_at hl 0 rfl) ?_
          refine lv_ldc (v := (-1000000004 : Int32)) hx hb hown (hts (.constant RX6 188 (-1000000004)) (List.mem_of_getElem? (i := 5) rfl)) dX6_best_59 ?_
          refine mcalli (w1 := (wM g q)) (va_runV (As := [.int (-1000000004 : Int32)]) (rest := []) hC (kX6_finds l g  q H.size S16 J (-1000000004 : Int32) _ h) (cwV 1 hts gX6_best_X6_finds rfl rfl rfl (by decide +kernel) ⟨Nat.le_of_ble_eq_true rfl, Nat.le_of_ble_eq_true rfl⟩) (mpreV E0_ok hK hE hA hw (Sub1.refl _) 0 rfl rfl) rfl rfl hl.1 rfl (lv_room (Nat.le_of_ble_eq_true rfl)) dX6_best_61 ⟨Nat.zero_le _, Nat.zero_le _⟩) hA hw (Sub1.refl _) (fun _ => Sub.whole rfl) (fun r21 u22 H locs h hw => ?_)
          obtain ⟨S23, J24⟩ := u22
          obtain ⟨hu, h⟩ := h
          replace hu : J = J24 := hu.symm
          subst hu
          rw [hQ]
          exact mreti (w := (wM g q)) (u := (S23, J)) hC hr hlocks hK hw ⟨rfl, h⟩ dX6_best_64
        refine lv_if_lt (tgt := 58) hx hb dX6_best_47 (by decide) (fun c28 => ?_) (fun c28 => ?_)
        · replace h := h.1 c28
          exact join20  _ _ _ h hw (lv_sub hl [1] rfl)
        · replace h := h.2 c28
          refine lv_iload_n hx hb dX6_best_50 rfl (lv_at hl 4 rfl) ?_
          refine lv_aload_n hx hb dX6_best_51 rfl (lv_at hl 1 rfl) ?_
          refine M_mg13 hC hinX6 hK hw (List.mem_of_getElem? (i := 4) rfl) dX6_best_52 ?_
          refine lv_icmp_lt (tgt := 65) hx hb dX6_best_55 (by decide) (fun c27 => ?_) (fun c27 => ?_)
          · replace h := h.1 c27
            refine lv_iload_n hx hb dX6_best_65 rfl (lv_at hl 4 rfl) ?_
            refine lv_iconst (v := (-1 : Int32)) hx hb dX6_best_66 (by decide) ?_
            refine lv_icmp_ne (tgt := 75) hx hb dX6_best_67 (by decide) (fun c26 => ?_) (fun c26 => ?_)
            · replace h := h.2 c26
              refine lv_iload_n hx hb dX6_best_75 rfl (lv_at hl 4 rfl) ?_
              refine lv_bipush (v := (-2 : Int32)) hx hb dX6_best_76 (by decide) ?_
              refine lv_icmp_ne (tgt := 88) hx hb dX6_best_78 (by decide) (fun c25 => ?_) (fun c25 => ?_)
              · replace h := h.2 c25
                refine lv_aload_n hx hb dX6_best_88 rfl (lv_at hl 1 rfl) ?_
                refine M_mg9 hC hinX6 hK hw (List.mem_of_getElem? (i := 7) rfl) dX6_best_89 ?_
                refine lv_iload_n hx hb dX6_best_92 rfl (lv_at hl 4 rfl) ?_
                obtain ⟨hi, h⟩ := h
                refine M_ml9 hC hK hw hi dX6_best_93 ?_
                rw [hQ]
                exact mreti (w := (wM g q)) (u := (S16, J)) hC hr hlocks hK hw ⟨rfl, h⟩ dX6_best_94
              · replace h := h.1 c25
                refine lv_aload_n hx hb dX6_best_81 rfl (lv_at hl 1 rfl) ?_
                refine M_mg11 hC hinX6 hK hw (List.mem_of_getElem? (i := 6) rfl) dX6_best_82 ?_
                refine lv_goto (tgt := 94) hx hb dX6_best_85 (by decide) ?_
                rw [hQ]
                exact mreti (w := (wM g q)) (u := (S16, J)) hC hr hlocks hK hw ⟨rfl, h⟩ dX6_best_94
            · replace h := h.1 c26
              refine lv_iload hx hb dX6_best_70 (lv_at hl 0 rfl) ?_
              refine lv_goto (tgt := 94) hx hb dX6_best_72 (by decide) ?_
              rw [hQ]
              exact mreti (w := (wM g q)) (u := (S16, J)) hC hr hlocks hK hw ⟨rfl, h⟩ dX6_best_94
          · replace h := h.2 c27
            exact join20  _ _ _ h hw (lv_sub hl [1] rfl)
      · replace h := h.1 c29
        exact join5  _ _ _ h hw (lv_sub hl [0] rfl)
def wX6_many (S : Bun) (J : Lon) (a1 : Int32) (a2 : Int32) (post : Int32 → Bun → Prop) : Prop :=
  wX6_isTeam S J a1 (fun r1 => wjoin (σ := Unit) (fun _ => wX6_finds S J (-1000000001 : Int32) (fun r6 S8 => post r6 S8)) (fun J3 => ((r1 = 0 → J3 ()) ∧ (¬ (r1 = 0) → wX6_isField S J a2 (fun r10 => ((r10 = 0 → J3 ()) ∧ (¬ (r10 = 0) → wX6_furrows S J a1 a2 (fun S14 => post (S14 0 10) S14))))))))
set_option maxRecDepth 100000 in
set_option maxHeartbeats 4000000 in
theorem kX6_many (l : Launch) (g : Gl)  (q : Nat → Nat) (sz : Nat) (S : Bun) (J : Lon) (a1 : Int32) (a2 : Int32) (post : Int32 → Bun → Prop) (h : wX6_many S J a1 a2 post) : Met l yX6_many wsX6_many (rmm 5 128) (wPc g E0 ((wM g q) (S, J)) sz [.ref (q 0), .int a1, .int a2]) (va_Qi (fun (r : Int32) (u : Bun × Lon) => u.2 = J ∧ post r u.1) (wB g (wM g q) (va_A ((wM g q) (S, J)) sz)) (va_A ((wM g q) (S, J)) sz)) 0 0 (va_A ((wM g q) (S, J)) sz) := by
  refine mstart (Qf := fun A => va_Qi (fun (r : Int32) (u : Bun × Lon) => u.2 = J ∧ post r u.1) (wB g (wM g q) A) A) (by decide) rfl (Nat.le_of_ble_eq_true rfl) ?_
  intro p e s m args below meth c A Q H locs ls hC hr hlocks hname hQ hA hK hE hw hl
  have hC : CallFix p m c cX6_many 3 s args wsX6_many RX6 := hC
  obtain ⟨hx, hb, -, hown, hts⟩ := id hC
  have hl : lv_has ls 3 [(0, .ref (q 0)), (1, .int a1), (2, .int a2)] := hl
  rw [wX6_many] at h
  have hinX6 : ∀ w ∈ wsX60, w ∈ wsX6_many := fun w hw9 => List.mem_cons_of_mem _ (List.mem_append_right _ hw9)
  refine lv_aload_n hx hb dX6_many_0 rfl (lv_at hl 0 rfl) ?_
  refine lv_iload_n hx hb dX6_many_1 rfl (lv_at hl 1 rfl) ?_
  refine mcalli (w1 := (wM g q)) (va_runV (As := [.int a1]) (rest := []) hC (kX6_isTeam l g  q H.size S J a1 _ h) (cwV 1 hts gX6_many_X6_isTeam rfl rfl rfl (by decide +kernel) ⟨Nat.le_of_ble_eq_true rfl, Nat.le_of_ble_eq_true rfl⟩) (mpreV E0_ok hK hE hA hw (Sub1.refl _) 0 rfl rfl) rfl rfl hl.1 rfl (lv_room (Nat.le_of_ble_eq_true rfl)) dX6_many_2 ⟨Nat.zero_le _, Nat.zero_le _⟩) hA hw (Sub1.refl _) (fun _ => Sub.whole rfl) (fun r1 u2 H locs h hw => ?_)
  obtain ⟨hu, h⟩ := h
  replace hu := hu.symm
  subst hu
  obtain ⟨J3, hJ4, h⟩ := h
  have join5 : ∀  (H : Heap) (locs : List Loc) (ls : Array Slot), J3 () → Wd g.1 A s.heap ((wM g q) (S, J)) H locs → lv_has ls 3 [(0, .ref (q 0))] → W p l e (rmm 5 128) s m args below meth c H locs 0 0 Q (F0 m 16 ls []) := by
    intro  H locs ls h hw hl
    replace h := hJ4 () h
    refine lv_aload_n hx hb dX6_many_16 rfl (lv_at hl 0 rfl) ?_
    refine lv_ldc (v := (-1000000001 : Int32)) hx hb hown (hts (.constant RX6 68 (-1000000001)) (List.mem_of_getElem? (i := 1) rfl)) dX6_many_17 ?_
    refine mcalli (w1 := (wM g q)) (va_runV (As := [.int (-1000000001 : Int32)]) (rest := []) hC (kX6_finds l g  q H.size S J (-1000000001 : Int32) _ h) (cwV 1 hts gX6_many_X6_finds rfl rfl rfl (by decide +kernel) ⟨Nat.le_of_ble_eq_true rfl, Nat.le_of_ble_eq_true rfl⟩) (mpreV E0_ok hK hE hA hw (Sub1.refl _) 0 rfl rfl) rfl rfl hl.1 rfl (lv_room (Nat.le_of_ble_eq_true rfl)) dX6_many_19 ⟨Nat.zero_le _, Nat.zero_le _⟩) hA hw (Sub1.refl _) (fun _ => Sub.whole rfl) (fun r6 u7 H locs h hw => ?_)
    obtain ⟨S8, J9⟩ := u7
    obtain ⟨hu, h⟩ := h
    replace hu : J = J9 := hu.symm
    subst hu
    rw [hQ]
    exact mreti (w := (wM g q)) (u := (S8, J)) hC hr hlocks hK hw ⟨rfl, h⟩ dX6_many_22
  refine lv_if_eq (tgt := 16) hx hb dX6_many_5 (by decide) (fun c17 => ?_) (fun c17 => ?_)
  · replace h := h.1 c17
    exact join5  _ _ _ h hw (lv_sub hl [0] rfl)
  · replace h := h.2 c17
    refine lv_aload_n hx hb dX6_many_8 rfl (lv_at hl 0 rfl) ?_
    refine lv_iload_n hx hb dX6_many_9 rfl (lv_at hl 2 rfl) ?_
    refine mcalli (w1 := (wM g q)) (va_runV (As := [.int a2]) (rest := []) hC (kX6_isField l g  q H.size S J a2 _ h) (cwV 1 hts gX6_many_X6_isField rfl rfl rfl (by decide +kernel) ⟨Nat.le_of_ble_eq_true rfl, Nat.le_of_ble_eq_true rfl⟩) (mpreV E0_ok hK hE hA hw (Sub1.refl _) 0 rfl rfl) rfl rfl hl.1 rfl (lv_room (Nat.le_of_ble_eq_true rfl)) dX6_many_10 ⟨Nat.zero_le _, Nat.zero_le _⟩) hA hw (Sub1.refl _) (fun _ => Sub.whole rfl) (fun r10 u11 H locs h hw => ?_)
    obtain ⟨hu, h⟩ := h
    replace hu := hu.symm
    subst hu
    refine lv_if_ne (tgt := 23) hx hb dX6_many_13 (by decide) (fun c16 => ?_) (fun c16 => ?_)
    · replace h := h.2 c16
      refine lv_aload_n hx hb dX6_many_23 rfl (lv_at hl 0 rfl) ?_
      refine lv_iload_n hx hb dX6_many_24 rfl (lv_at hl 1 rfl) ?_
      refine lv_iload_n hx hb dX6_many_25 rfl (lv_at hl 2 rfl) ?_
      refine mcallv (w1 := (wM g q)) (va_runV (As := [.int a1, .int a2]) (rest := []) hC (kX6_furrows l g  q H.size S J a1 a2 _ h) (cwV 2 hts gX6_many_X6_furrows rfl rfl rfl (by decide +kernel) ⟨Nat.le_of_ble_eq_true rfl, Nat.le_of_ble_eq_true rfl⟩) (mpreV E0_ok hK hE hA hw (Sub1.refl _) 0 rfl rfl) rfl rfl hl.1 rfl (lv_room (Nat.le_of_ble_eq_true rfl)) dX6_many_26 ⟨Nat.zero_le _, Nat.zero_le _⟩) hA hw (Sub1.refl _) (fun _ => Sub.whole rfl) (fun u13 H locs h hw => ?_)
      obtain ⟨S14, J15⟩ := u13
      obtain ⟨hu, h⟩ := h
      replace hu : J = J15 := hu.symm
      subst hu
      refine lv_aload_n hx hb dX6_many_29 rfl (lv_at hl 0 rfl) ?_
      refine M_mg10 hC hinX6 hK hw (List.mem_of_getElem? (i := 2) rfl) dX6_many_30 ?_
      rw [hQ]
      exact mreti (w := (wM g q)) (u := (S14, J)) hC hr hlocks hK hw ⟨rfl, h⟩ dX6_many_33
    · replace h := h.1 c16
      exact join5  _ _ _ h hw (lv_sub hl [0] rfl)
def wX6_isColour (S : Bun) (J : Lon) (a1 : Int32) (a2 : Int32) (a3 : Int32) (post : Int32 → Prop) : Prop :=
  wX6_its S J a1 a2 (fun r1 => ((r1 < 0 → post (1 : Int32)) ∧ (¬ (r1 < 0) → wX6_its S J a1 a2 (fun r3 => wX6_isEven r3 (fun r5 => ((r5 = a3 → post (1 : Int32)) ∧ (¬ (r5 = a3) → post (0 : Int32))))))))
set_option maxRecDepth 100000 in
set_option maxHeartbeats 4000000 in
theorem kX6_isColour (l : Launch) (g : Gl)  (q : Nat → Nat) (sz : Nat) (S : Bun) (J : Lon) (a1 : Int32) (a2 : Int32) (a3 : Int32) (post : Int32 → Prop) (h : wX6_isColour S J a1 a2 a3 post) : Met l yX6_isColour wsX6_isColour (rmm 1 22) (wPc g E0 ((wM g q) (S, J)) sz [.ref (q 0), .int a1, .int a2, .int a3]) (va_Qi (fun (r : Int32) (u : Bun × Lon) => u = (S, J) ∧ post r) (wB g (wM g q) (va_A ((wM g q) (S, J)) sz)) (va_A ((wM g q) (S, J)) sz)) 0 0 (va_A ((wM g q) (S, J)) sz) := by
  refine mstart (Qf := fun A => va_Qi (fun (r : Int32) (u : Bun × Lon) => u = (S, J) ∧ post r) (wB g (wM g q) A) A) (by decide) rfl (Nat.le_of_ble_eq_true rfl) ?_
  intro p e s m args below meth c A Q H locs ls hC hr hlocks hname hQ hA hK hE hw hl
  have hC : CallFix p m c cX6_isColour 4 s args wsX6_isColour RX6 := hC
  obtain ⟨hx, hb, -, hown, hts⟩ := id hC
  have hl : lv_has ls 4 [(0, .ref (q 0)), (1, .int a1), (2, .int a2), (3, .int a3)] := hl
  rw [wX6_isColour] at h
  refine lv_aload_n hx hb dX6_isColour_0 rfl (lv_at hl 0 rfl) ?_
  refine lv_iload_n hx hb dX6_isColour_1 rfl (lv_at hl 1 rfl) ?_
  refine lv_iload_n hx hb dX6_isColour_2 rfl (lv_at hl 2 rfl) ?_
  refine mcalli (w1 := (wM g q)) (va_runV (As := [.int a1, .int a2]) (rest := []) hC (kX6_its l g  q H.size S J a1 a2 _ h) (cwV 2 hts gX6_isColour_X6_its rfl rfl rfl (by decide +kernel) ⟨Nat.le_of_ble_eq_true rfl, Nat.le_of_ble_eq_true rfl⟩) (mpreV E0_ok hK hE hA hw (Sub1.refl _) 0 rfl rfl) rfl rfl hl.1 rfl (lv_room (Nat.le_of_ble_eq_true rfl)) dX6_isColour_3 ⟨Nat.zero_le _, Nat.zero_le _⟩) hA hw (Sub1.refl _) (fun _ => Sub.whole rfl) (fun r1 u2 H locs h hw => ?_)
  obtain ⟨hu, h⟩ := h
  replace hu := hu.symm
  subst hu
  refine lv_if_lt (tgt := 22) hx hb dX6_isColour_6 (by decide) (fun c8 => ?_) (fun c8 => ?_)
  · replace h := h.1 c8
    refine lv_iconst (v := (1 : Int32)) hx hb dX6_isColour_22 (by decide) ?_
    refine lv_goto (tgt := 27) hx hb dX6_isColour_23 (by decide) ?_
    rw [hQ]
    exact mretz (w := (wM g q)) (u := (S, J)) hC hr hlocks hK hw (Or.inr rfl) ⟨rfl, h⟩ dX6_isColour_27
  · replace h := h.2 c8
    refine lv_aload_n hx hb dX6_isColour_9 rfl (lv_at hl 0 rfl) ?_
    refine lv_iload_n hx hb dX6_isColour_10 rfl (lv_at hl 1 rfl) ?_
    refine lv_iload_n hx hb dX6_isColour_11 rfl (lv_at hl 2 rfl) ?_
    refine mcalli (w1 := (wM g q)) (va_runV (As := [.int a1, .int a2]) (rest := []) hC (kX6_its l g  q H.size S J a1 a2 _ h) (cwV 2 hts gX6_isColour_X6_its rfl rfl rfl (by decide +kernel) ⟨Nat.le_of_ble_eq_true rfl, Nat.le_of_ble_eq_true rfl⟩) (mpreV E0_ok hK hE hA hw (Sub1.refl _) 0 rfl rfl) rfl rfl hl.1 rfl (lv_room (Nat.le_of_ble_eq_true rfl)) dX6_isColour_12 ⟨Nat.zero_le _, Nat.zero_le _⟩) hA hw (Sub1.refl _) (fun _ => Sub.whole rfl) (fun r3 u4 H locs h hw => ?_)
    obtain ⟨hu, h⟩ := h
    replace hu := hu.symm
    subst hu
    refine mcalli (w1 := (fun _ => (wM g q) (S, J))) (wc := fun _ : Unit => ([] : va_W)) (u := ()) (va_runS (As := [.int r3]) (rest := []) hC (kX6_isEven l g  H.size r3 _ h) (va_cwS 1 hts gX6_isColour_X6_isEven rfl rfl rfl (by decide +kernel) ⟨Nat.le_of_ble_eq_true rfl, Nat.le_of_ble_eq_true rfl⟩) (mpre E0_ok hK hE hA hw (Sub1.nil _)) rfl rfl hl.1 rfl (lv_room (Nat.le_of_ble_eq_true rfl)) dX6_isColour_15 ⟨Nat.zero_le _, Nat.zero_le _⟩) hA hw (Sub1.nil _) (fun _ => Sub.nil _) (fun r5 u6 H locs h hw => ?_)
    obtain ⟨_, h⟩ := h
    refine lv_iload_n hx hb dX6_isColour_18 rfl (lv_at hl 3 rfl) ?_
    refine lv_icmp_ne (tgt := 26) hx hb dX6_isColour_19 (by decide) (fun c7 => ?_) (fun c7 => ?_)
    · replace h := h.2 c7
      refine lv_iconst (v := (0 : Int32)) hx hb dX6_isColour_26 (by decide) ?_
      rw [hQ]
      exact mretz (w := (wM g q)) (u := (S, J)) hC hr hlocks hK hw (Or.inl rfl) ⟨rfl, h⟩ dX6_isColour_27
    · replace h := h.1 c7
      refine lv_iconst (v := (1 : Int32)) hx hb dX6_isColour_22 (by decide) ?_
      refine lv_goto (tgt := 27) hx hb dX6_isColour_23 (by decide) ?_
      rw [hQ]
      exact mretz (w := (wM g q)) (u := (S, J)) hC hr hlocks hK hw (Or.inr rfl) ⟨rfl, h⟩ dX6_isColour_27
def wX6_barred (S : Bun) (J : Lon) (a1 : Int32) (post : Int32 → Bun → Prop) : Prop :=
  wX6_isField S J a1 (fun r1 => ((r1 = 0 → wX6_finds S J (-1000000001 : Int32) (fun r47 S49 => post r47 S49)) ∧ (¬ (r1 = 0) → wX6_colours S J a1 (fun r3 => (((1 : Int32) < r3 → post (1 : Int32) S) ∧ (¬ ((1 : Int32) < r3) → (((-1 : Int32) ≤ r3 → wX6_earth S J a1 (fun r5 => ((r5 = 0 → post (0 : Int32) S) ∧ (¬ (r5 = 0) → ((r3 = 0 → wX6_its S J a1 (2 : Int32) (fun r7 => wjoin (σ := Int32) (fun y9 => ((y9 = 0 → post (0 : Int32) S) ∧ (¬ (y9 = 0) → wX6_its S J a1 (2 : Int32) (fun r13 => wX6_isEven r13 (fun r15 => wX6_its S J a1 (3 : Int32) (fun r17 => wX6_isEven r17 (fun r19 => ((r15 = r19 → post (2 : Int32) S) ∧ (¬ (r15 = r19) → post (0 : Int32) S))))))))) (fun J10 => ((r7 < 0 → J10 (0 : Int32)) ∧ (¬ (r7 < 0) → wX6_its S J a1 (3 : Int32) (fun r23 => ((r23 < 0 → J10 (0 : Int32)) ∧ (¬ (r23 < 0) → J10 (1 : Int32))))))))) ∧ (¬ (r3 = 0) → wjoin (σ := Int32) (fun y27 => wX6_isColour S J a1 (2 : Int32) y27 (fun r31 => ((r31 = 0 → post (2 : Int32) S) ∧ (¬ (r31 = 0) → wjoin (σ := Int32) (fun y33 => wX6_isColour S J a1 (3 : Int32) y33 (fun r37 => ((r37 = 0 → post (2 : Int32) S) ∧ (¬ (r37 = 0) → post (0 : Int32) S)))) (fun J34 => ((r3 ≤ 0 → J34 (0 : Int32)) ∧ (¬ (r3 ≤ 0) → J34 (1 : Int32)))))))) (fun J28 => ((r3 ≤ 0 → J28 (0 : Int32)) ∧ (¬ (r3 ≤ 0) → J28 (1 : Int32)))))))))) ∧ (¬ ((-1 : Int32) ≤ r3) → post (1 : Int32) S))))))))
set_option maxRecDepth 100000 in
set_option maxHeartbeats 4000000 in
theorem kX6_barred (l : Launch) (g : Gl)  (q : Nat → Nat) (sz : Nat) (S : Bun) (J : Lon) (a1 : Int32) (post : Int32 → Bun → Prop) (h : wX6_barred S J a1 post) : Met l yX6_barred wsX6_barred (rmm 3 67) (wPc g E0 ((wM g q) (S, J)) sz [.ref (q 0), .int a1]) (va_Qi (fun (r : Int32) (u : Bun × Lon) => u.2 = J ∧ post r u.1) (wB g (wM g q) (va_A ((wM g q) (S, J)) sz)) (va_A ((wM g q) (S, J)) sz)) 0 0 (va_A ((wM g q) (S, J)) sz) := by
  refine mstart (Qf := fun A => va_Qi (fun (r : Int32) (u : Bun × Lon) => u.2 = J ∧ post r u.1) (wB g (wM g q) A) A) (by decide) rfl (Nat.le_of_ble_eq_true rfl) ?_
  intro p e s m args below meth c A Q H locs ls hC hr hlocks hname hQ hA hK hE hw hl
  have hC : CallFix p m c cX6_barred 4 s args wsX6_barred RX6 := hC
  obtain ⟨hx, hb, -, hown, hts⟩ := id hC
  have hl : lv_has ls 4 [(0, .ref (q 0)), (1, .int a1)] := hl
  rw [wX6_barred] at h
  refine lv_aload_n hx hb dX6_barred_0 rfl (lv_at hl 0 rfl) ?_
  refine lv_iload_n hx hb dX6_barred_1 rfl (lv_at hl 1 rfl) ?_
  refine mcalli (w1 := (wM g q)) (va_runV (As := [.int a1]) (rest := []) hC (kX6_isField l g  q H.size S J a1 _ h) (cwV 1 hts gX6_barred_X6_isField rfl rfl rfl (by decide +kernel) ⟨Nat.le_of_ble_eq_true rfl, Nat.le_of_ble_eq_true rfl⟩) (mpreV E0_ok hK hE hA hw (Sub1.refl _) 0 rfl rfl) rfl rfl hl.1 rfl (lv_room (Nat.le_of_ble_eq_true rfl)) dX6_barred_2 ⟨Nat.zero_le _, Nat.zero_le _⟩) hA hw (Sub1.refl _) (fun _ => Sub.whole rfl) (fun r1 u2 H locs h hw => ?_)
  obtain ⟨hu, h⟩ := h
  replace hu := hu.symm
  subst hu
  refine lv_if_ne (tgt := 15) hx hb dX6_barred_5 (by decide) (fun c51 => ?_) (fun c51 => ?_)
  · replace h := h.2 c51
    refine lv_aload_n hx hb dX6_barred_15 rfl (lv_at hl 0 rfl) ?_
    refine lv_iload_n hx hb dX6_barred_16 rfl (lv_at hl 1 rfl) ?_
    refine mcalli (w1 := (wM g q)) (va_runV (As := [.int a1]) (rest := []) hC (kX6_colours l g  q H.size S J a1 _ h) (cwV 1 hts gX6_barred_X6_colours rfl rfl rfl (by decide +kernel) ⟨Nat.le_of_ble_eq_true rfl, Nat.le_of_ble_eq_true rfl⟩) (mpreV E0_ok hK hE hA hw (Sub1.refl _) 0 rfl rfl) rfl rfl hl.1 rfl (lv_room (Nat.le_of_ble_eq_true rfl)) dX6_barred_17 ⟨Nat.zero_le _, Nat.zero_le _⟩) hA hw (Sub1.refl _) (fun _ => Sub.whole rfl) (fun r3 u4 H locs h hw => ?_)
    obtain ⟨hu, h⟩ := h
    replace hu := hu.symm
    subst hu
    refine lv_istore_n (lv' := [(2, .int r3), (0, .ref (q 0)), (1, .int a1)]) hx hb dX6_barred_20 rfl hl (by decide) rfl (fun ls hl => ?_)
    refine lv_iload_n hx hb dX6_barred_21 rfl (lv_at hl 0 rfl) ?_
    refine lv_iconst (v := (1 : Int32)) hx hb dX6_barred_22 (by decide) ?_
    refine lv_icmp_gt (tgt := 31) hx hb dX6_barred_23 (by decide) (fun c46 => ?_) (fun c46 => ?_)
    · replace h := h.1 c46
      refine lv_iconst (v := (1 : Int32)) hx hb dX6_barred_31 (by decide) ?_
      rw [hQ]
      exact mreti (w := (wM g q)) (u := (S, J)) hC hr hlocks hK hw ⟨rfl, h⟩ dX6_barred_32
    · replace h := h.2 c46
      refine lv_iload_n hx hb dX6_barred_26 rfl (lv_at hl 0 rfl) ?_
      refine lv_iconst (v := (-1 : Int32)) hx hb dX6_barred_27 (by decide) ?_
      refine lv_icmp_ge (tgt := 33) hx hb dX6_barred_28 (by decide) (fun c45 => ?_) (fun c45 => ?_)
      · replace h := h.1 c45
        refine lv_aload_n hx hb dX6_barred_33 rfl (lv_at hl 1 rfl) ?_
        refine lv_iload_n hx hb dX6_barred_34 rfl (lv_at hl 2 rfl) ?_
        refine mcalli (w1 := (wM g q)) (va_runV (As := [.int a1]) (rest := []) hC (kX6_earth l g  q H.size S J a1 _ h) (cwV 1 hts gX6_barred_X6_earth rfl rfl rfl (by decide +kernel) ⟨Nat.le_of_ble_eq_true rfl, Nat.le_of_ble_eq_true rfl⟩) (mpreV E0_ok hK hE hA hw (Sub1.refl _) 0 rfl rfl) rfl rfl hl.1 rfl (lv_room (Nat.le_of_ble_eq_true rfl)) dX6_barred_35 ⟨Nat.zero_le _, Nat.zero_le _⟩) hA hw (Sub1.refl _) (fun _ => Sub.whole rfl) (fun r5 u6 H locs h hw => ?_)
        obtain ⟨hu, h⟩ := h
        replace hu := hu.symm
        subst hu
        refine lv_if_ne (tgt := 43) hx hb dX6_barred_38 (by decide) (fun c44 => ?_) (fun c44 => ?_)
        · replace h := h.2 c44
          refine lv_iload_n hx hb dX6_barred_43 rfl (lv_at hl 0 rfl) ?_
          refine lv_if_eq (tgt := 89) hx hb dX6_barred_44 (by decide) (fun c43 => ?_) (fun c43 => ?_)
          · replace h := h.1 c43
            refine lv_aload_n hx hb dX6_barred_89 rfl (lv_at hl 1 rfl) ?_
            refine lv_iload_n hx hb dX6_barred_90 rfl (lv_at hl 2 rfl) ?_
            refine lv_iconst (v := (2 : Int32)) hx hb dX6_barred_91 (by decide) ?_
            refine mcalli (w1 := (wM g q)) (va_runV (As := [.int a1, .int (2 : Int32)]) (rest := []) hC (kX6_its l g  q H.size S J a1 (2 : Int32) _ h) (cwV 2 hts gX6_barred_X6_its rfl rfl rfl (by decide +kernel) ⟨Nat.le_of_ble_eq_true rfl, Nat.le_of_ble_eq_true rfl⟩) (mpreV E0_ok hK hE hA hw (Sub1.refl _) 0 rfl rfl) rfl rfl hl.1 rfl (lv_room (Nat.le_of_ble_eq_true rfl)) dX6_barred_92 ⟨Nat.zero_le _, Nat.zero_le _⟩) hA hw (Sub1.refl _) (fun _ => Sub.whole rfl) (fun r7 u8 H locs h hw => ?_)
            obtain ⟨hu, h⟩ := h
            replace hu := hu.symm
            subst hu
            obtain ⟨J10, hJ11, h⟩ := h
            have join12 : ∀ (y9 : Int32) (H : Heap) (locs : List Loc) (ls : Array Slot), J10 y9 → Wd g.1 A s.heap ((wM g q) (S, J)) H locs → lv_has ls 4 [(0, .ref (q 0)), (1, .int a1)] → W p l e (rmm 3 67) s m args below meth c H locs 0 0 Q (F0 m 112 ls [.int y9]) := by
              intro y9 H locs ls h hw hl
              replace h := hJ11 y9 h
              refine lv_istore_n (lv' := [(3, .int y9), (0, .ref (q 0)), (1, .int a1)]) hx hb dX6_barred_112 rfl hl (by decide) rfl (fun ls hl => ?_)
              refine lv_iload_n hx hb dX6_barred_113 rfl (lv_at hl 0 rfl) ?_
              refine lv_if_eq (tgt := 142) hx hb dX6_barred_114 (by decide) (fun c22 => ?_) (fun c22 => ?_)
              · replace h := h.1 c22
                refine lv_iconst (v := (0 : Int32)) hx hb dX6_barred_142 (by decide) ?_
                rw [hQ]
                exact mreti (w := (wM g q)) (u := (S, J)) hC hr hlocks hK hw ⟨rfl, h⟩ dX6_barred_143
              · replace h := h.2 c22
                refine lv_aload_n hx hb dX6_barred_117 rfl (lv_at hl 1 rfl) ?_
                refine lv_iload_n hx hb dX6_barred_118 rfl (lv_at hl 2 rfl) ?_
                refine lv_iconst (v := (2 : Int32)) hx hb dX6_barred_119 (by decide) ?_
                refine mcalli (w1 := (wM g q)) (va_runV (As := [.int a1, .int (2 : Int32)]) (rest := []) hC (kX6_its l g  q H.size S J a1 (2 : Int32) _ h) (cwV 2 hts gX6_barred_X6_its rfl rfl rfl (by decide +kernel) ⟨Nat.le_of_ble_eq_true rfl, Nat.le_of_ble_eq_true rfl⟩) (mpreV E0_ok hK hE hA hw (Sub1.refl _) 0 rfl rfl) rfl rfl hl.1 rfl (lv_room (Nat.le_of_ble_eq_true rfl)) dX6_barred_120 ⟨Nat.zero_le _, Nat.zero_le _⟩) hA hw (Sub1.refl _) (fun _ => Sub.whole rfl) (fun r13 u14 H locs h hw => ?_)
                obtain ⟨hu, h⟩ := h
                replace hu := hu.symm
                subst hu
                refine mcalli (w1 := (fun _ => (wM g q) (S, J))) (wc := fun _ : Unit => ([] : va_W)) (u := ()) (va_runS (As := [.int r13]) (rest := []) hC (kX6_isEven l g  H.size r13 _ h) (va_cwS 1 hts gX6_barred_X6_isEven rfl rfl rfl (by decide +kernel) ⟨Nat.le_of_ble_eq_true rfl, Nat.le_of_ble_eq_true rfl⟩) (mpre E0_ok hK hE hA hw (Sub1.nil _)) rfl rfl hl.1 rfl (lv_room (Nat.le_of_ble_eq_true rfl)) dX6_barred_123 ⟨Nat.zero_le _, Nat.zero_le _⟩) hA hw (Sub1.nil _) (fun _ => Sub.nil _) (fun r15 u16 H locs h hw => ?_)
                obtain ⟨_, h⟩ := h
                refine lv_aload_n hx hb dX6_barred_126 rfl (lv_at hl 1 rfl) ?_
                refine lv_iload_n hx hb dX6_barred_127 rfl (lv_at hl 2 rfl) ?_
                refine lv_iconst (v := (3 : Int32)) hx hb dX6_barred_128 (by decide) ?_
                refine mcalli (w1 := (wM g q)) (va_runV (As := [.int a1, .int (3 : Int32)]) (rest := [.int r15]) hC (kX6_its l g  q H.size S J a1 (3 : Int32) _ h) (cwV 2 hts gX6_barred_X6_its rfl rfl rfl (by decide +kernel) ⟨Nat.le_of_ble_eq_true rfl, Nat.le_of_ble_eq_true rfl⟩) (mpreV E0_ok hK hE hA hw (Sub1.refl _) 0 rfl rfl) rfl rfl hl.1 rfl (lv_room (Nat.le_of_ble_eq_true rfl)) dX6_barred_129 ⟨Nat.zero_le _, Nat.zero_le _⟩) hA hw (Sub1.refl _) (fun _ => Sub.whole rfl) (fun r17 u18 H locs h hw => ?_)
                obtain ⟨hu, h⟩ := h
                replace hu := hu.symm
                subst hu
                refine mcalli (w1 := (fun _ => (wM g q) (S, J))) (wc := fun _ : Unit => ([] : va_W)) (u := ()) (va_runS (As := [.int r17]) (rest := [.int r15]) hC (kX6_isEven l g  H.size r17 _ h) (va_cwS 1 hts gX6_barred_X6_isEven rfl rfl rfl (by decide +kernel) ⟨Nat.le_of_ble_eq_true rfl, Nat.le_of_ble_eq_true rfl⟩) (mpre E0_ok hK hE hA hw (Sub1.nil _)) rfl rfl hl.1 rfl (lv_room (Nat.le_of_ble_eq_true rfl)) dX6_barred_132 ⟨Nat.zero_le _, Nat.zero_le _⟩) hA hw (Sub1.nil _) (fun _ => Sub.nil _) (fun r19 u20 H locs h hw => ?_)
                obtain ⟨_, h⟩ := h
                refine lv_icmp_ne (tgt := 142) hx hb dX6_barred_135 (by decide) (fun c21 => ?_) (fun c21 => ?_)
                · replace h := h.2 c21
                  refine lv_iconst (v := (0 : Int32)) hx hb dX6_barred_142 (by decide) ?_
                  rw [hQ]
                  exact mreti (w := (wM g q)) (u := (S, J)) hC hr hlocks hK hw ⟨rfl, h⟩ dX6_barred_143
                · replace h := h.1 c21
                  refine lv_iconst (v := (2 : Int32)) hx hb dX6_barred_138 (by decide) ?_
                  refine lv_goto (tgt := 143) hx hb dX6_barred_139 (by decide) ?_
                  rw [hQ]
                  exact mreti (w := (wM g q)) (u := (S, J)) hC hr hlocks hK hw ⟨rfl, h⟩ dX6_barred_143
            refine lv_if_lt (tgt := 111) hx hb dX6_barred_95 (by decide) (fun c26 => ?_) (fun c26 => ?_)
            · replace h := h.1 c26
              refine lv_iconst (v := (0 : Int32)) hx hb dX6_barred_111 (by decide) ?_
              exact join12 (0 : Int32) _ _ _ h hw (lv_sub hl [1, 2] rfl)
            · replace h := h.2 c26
              refine lv_aload_n hx hb dX6_barred_98 rfl (lv_at hl 1 rfl) ?_
              refine lv_iload_n hx hb dX6_barred_99 rfl (lv_at hl 2 rfl) ?_
              refine lv_iconst (v := (3 : Int32)) hx hb dX6_barred_100 (by decide) ?_
              refine mcalli (w1 := (wM g q)) (va_runV (As := [.int a1, .int (3 : Int32)]) (rest := []) hC (kX6_its l g  q H.size S J a1 (3 : Int32) _ h) (cwV 2 hts gX6_barred_X6_its rfl rfl rfl (by decide +kernel) ⟨Nat.le_of_ble_eq_true rfl, Nat.le_of_ble_eq_true rfl⟩) (mpreV E0_ok hK hE hA hw (Sub1.refl _) 0 rfl rfl) rfl rfl hl.1 rfl (lv_room (Nat.le_of_ble_eq_true rfl)) dX6_barred_101 ⟨Nat.zero_le _, Nat.zero_le _⟩) hA hw (Sub1.refl _) (fun _ => Sub.whole rfl) (fun r23 u24 H locs h hw => ?_)
              obtain ⟨hu, h⟩ := h
              replace hu := hu.symm
              subst hu
              refine lv_if_lt (tgt := 111) hx hb dX6_barred_104 (by decide) (fun c25 => ?_) (fun c25 => ?_)
              · replace h := h.1 c25
                refine lv_iconst (v := (0 : Int32)) hx hb dX6_barred_111 (by decide) ?_
                exact join12 (0 : Int32) _ _ _ h hw (lv_sub hl [1, 2] rfl)
              · replace h := h.2 c25
                refine lv_iconst (v := (1 : Int32)) hx hb dX6_barred_107 (by decide) ?_
                refine lv_goto (tgt := 112) hx hb dX6_barred_108 (by decide) ?_
                exact join12 (1 : Int32) _ _ _ h hw (lv_sub hl [1, 2] rfl)
          · replace h := h.2 c43
            refine lv_aload_n hx hb dX6_barred_47 rfl (lv_at hl 1 rfl) ?_
            refine lv_iload_n hx hb dX6_barred_48 rfl (lv_at hl 2 rfl) ?_
            refine lv_iconst (v := (2 : Int32)) hx hb dX6_barred_49 (by decide) ?_
            refine lv_iload_n hx hb dX6_barred_50 rfl (lv_at hl 0 rfl) ?_
            obtain ⟨J28, hJ29, h⟩ := h
            have join30 : ∀ (y27 : Int32) (H : Heap) (locs : List Loc) (ls : Array Slot), J28 y27 → Wd g.1 A s.heap ((wM g q) (S, J)) H locs → lv_has ls 4 [(0, .ref (q 0)), (1, .int a1), (2, .int r3)] → W p l e (rmm 3 67) s m args below meth c H locs 0 0 Q (F0 m 59 ls [.int y27, .int (2 : Int32), .int a1, .ref (q 0)]) := by
              intro y27 H locs ls h hw hl
              replace h := hJ29 y27 h
              refine mcalli (w1 := (wM g q)) (va_runV (As := [.int a1, .int (2 : Int32), .int y27]) (rest := []) hC (kX6_isColour l g  q H.size S J a1 (2 : Int32) y27 _ h) (cwV 3 hts gX6_barred_X6_isColour rfl rfl rfl (by decide +kernel) ⟨Nat.le_of_ble_eq_true rfl, Nat.le_of_ble_eq_true rfl⟩) (mpreV E0_ok hK hE hA hw (Sub1.refl _) 0 rfl rfl) rfl rfl hl.1 rfl (lv_room (Nat.le_of_ble_eq_true rfl)) dX6_barred_59 ⟨Nat.zero_le _, Nat.zero_le _⟩) hA hw (Sub1.refl _) (fun _ => Sub.whole rfl) (fun r31 u32 H locs h hw => ?_)
              obtain ⟨hu, h⟩ := h
              replace hu := hu.symm
              subst hu
              refine lv_if_eq (tgt := 87) hx hb dX6_barred_62 (by decide) (fun c41 => ?_) (fun c41 => ?_)
              · replace h := h.1 c41
                refine lv_iconst (v := (2 : Int32)) hx hb dX6_barred_87 (by decide) ?_
                rw [hQ]
                exact mreti (w := (wM g q)) (u := (S, J)) hC hr hlocks hK hw ⟨rfl, h⟩ dX6_barred_88
              · replace h := h.2 c41
                refine lv_aload_n hx hb dX6_barred_65 rfl (lv_at hl 0 rfl) ?_
                refine lv_iload_n hx hb dX6_barred_66 rfl (lv_at hl 1 rfl) ?_
                refine lv_iconst (v := (3 : Int32)) hx hb dX6_barred_67 (by decide) ?_
                refine lv_iload_n hx hb dX6_barred_68 rfl (lv_at hl 2 rfl) ?_
                obtain ⟨J34, hJ35, h⟩ := h
                have join36 : ∀ (y33 : Int32) (H : Heap) (locs : List Loc) (ls : Array Slot), J34 y33 → Wd g.1 A s.heap ((wM g q) (S, J)) H locs → lv_has ls 4 [] → W p l e (rmm 3 67) s m args below meth c H locs 0 0 Q (F0 m 77 ls [.int y33, .int (3 : Int32), .int a1, .ref (q 0)]) := by
                  intro y33 H locs ls h hw hl
                  replace h := hJ35 y33 h
                  refine mcalli (w1 := (wM g q)) (va_runV (As := [.int a1, .int (3 : Int32), .int y33]) (rest := []) hC (kX6_isColour l g  q H.size S J a1 (3 : Int32) y33 _ h) (cwV 3 hts gX6_barred_X6_isColour rfl rfl rfl (by decide +kernel) ⟨Nat.le_of_ble_eq_true rfl, Nat.le_of_ble_eq_true rfl⟩) (mpreV E0_ok hK hE hA hw (Sub1.refl _) 0 rfl rfl) rfl rfl hl.1 rfl (lv_room (Nat.le_of_ble_eq_true rfl)) dX6_barred_77 ⟨Nat.zero_le _, Nat.zero_le _⟩) hA hw (Sub1.refl _) (fun _ => Sub.whole rfl) (fun r37 u38 H locs h hw => ?_)
                  obtain ⟨hu, h⟩ := h
                  replace hu := hu.symm
                  subst hu
                  refine lv_if_eq (tgt := 87) hx hb dX6_barred_80 (by decide) (fun c39 => ?_) (fun c39 => ?_)
                  · replace h := h.1 c39
                    refine lv_iconst (v := (2 : Int32)) hx hb dX6_barred_87 (by decide) ?_
                    rw [hQ]
                    exact mreti (w := (wM g q)) (u := (S, J)) hC hr hlocks hK hw ⟨rfl, h⟩ dX6_barred_88
                  · replace h := h.2 c39
                    refine lv_iconst (v := (0 : Int32)) hx hb dX6_barred_83 (by decide) ?_
                    refine lv_goto (tgt := 88) hx hb dX6_barred_84 (by decide) ?_
                    rw [hQ]
                    exact mreti (w := (wM g q)) (u := (S, J)) hC hr hlocks hK hw ⟨rfl, h⟩ dX6_barred_88
                refine lv_if_le (tgt := 76) hx hb dX6_barred_69 (by decide) (fun c40 => ?_) (fun c40 => ?_)
                · replace h := h.1 c40
                  refine lv_iconst (v := (0 : Int32)) hx hb dX6_barred_76 (by decide) ?_
                  exact join36 (0 : Int32) _ _ _ h hw (lv_sub hl [] rfl)
                · replace h := h.2 c40
                  refine lv_iconst (v := (1 : Int32)) hx hb dX6_barred_72 (by decide) ?_
                  refine lv_goto (tgt := 77) hx hb dX6_barred_73 (by decide) ?_
                  exact join36 (1 : Int32) _ _ _ h hw (lv_sub hl [] rfl)
            refine lv_if_le (tgt := 58) hx hb dX6_barred_51 (by decide) (fun c42 => ?_) (fun c42 => ?_)
            · replace h := h.1 c42
              refine lv_iconst (v := (0 : Int32)) hx hb dX6_barred_58 (by decide) ?_
              exact join30 (0 : Int32) _ _ _ h hw (lv_sub hl [1, 2, 0] rfl)
            · replace h := h.2 c42
              refine lv_iconst (v := (1 : Int32)) hx hb dX6_barred_54 (by decide) ?_
              refine lv_goto (tgt := 59) hx hb dX6_barred_55 (by decide) ?_
              exact join30 (1 : Int32) _ _ _ h hw (lv_sub hl [1, 2, 0] rfl)
        · replace h := h.1 c44
          refine lv_iconst (v := (0 : Int32)) hx hb dX6_barred_41 (by decide) ?_
          rw [hQ]
          exact mreti (w := (wM g q)) (u := (S, J)) hC hr hlocks hK hw ⟨rfl, h⟩ dX6_barred_42
      · replace h := h.2 c45
        refine lv_iconst (v := (1 : Int32)) hx hb dX6_barred_31 (by decide) ?_
        rw [hQ]
        exact mreti (w := (wM g q)) (u := (S, J)) hC hr hlocks hK hw ⟨rfl, h⟩ dX6_barred_32
  · replace h := h.1 c51
    refine lv_aload_n hx hb dX6_barred_8 rfl (lv_at hl 0 rfl) ?_
    refine lv_ldc (v := (-1000000001 : Int32)) hx hb hown (hts (.constant RX6 68 (-1000000001)) (List.mem_of_getElem? (i := 1) rfl)) dX6_barred_9 ?_
    refine mcalli (w1 := (wM g q)) (va_runV (As := [.int (-1000000001 : Int32)]) (rest := []) hC (kX6_finds l g  q H.size S J (-1000000001 : Int32) _ h) (cwV 1 hts gX6_barred_X6_finds rfl rfl rfl (by decide +kernel) ⟨Nat.le_of_ble_eq_true rfl, Nat.le_of_ble_eq_true rfl⟩) (mpreV E0_ok hK hE hA hw (Sub1.refl _) 0 rfl rfl) rfl rfl hl.1 rfl (lv_room (Nat.le_of_ble_eq_true rfl)) dX6_barred_11 ⟨Nat.zero_le _, Nat.zero_le _⟩) hA hw (Sub1.refl _) (fun _ => Sub.whole rfl) (fun r47 u48 H locs h hw => ?_)
    obtain ⟨S49, J50⟩ := u48
    obtain ⟨hu, h⟩ := h
    replace hu : J = J50 := hu.symm
    subst hu
    rw [hQ]
    exact mreti (w := (wM g q)) (u := (S49, J)) hC hr hlocks hK hw ⟨rfl, h⟩ dX6_barred_14
def wX6_missed (S : Bun) (J : Lon) (a1 : Int32) (a2 : Int32) (post : Int32 → Bun → Prop) : Prop :=
  wX6_isTeam S J a1 (fun r1 => wjoin (σ := Unit) (fun _ => wX6_finds S J (-1000000001 : Int32) (fun r6 S8 => post r6 S8)) (fun J3 => ((r1 = 0 → J3 ()) ∧ (¬ (r1 = 0) → wX6_isField S J a2 (fun r10 => ((r10 = 0 → J3 ()) ∧ (¬ (r10 = 0) → wX6_furrows S J a1 a2 (fun S14 => (((S14 0 12) = 0 → wX6_finds S14 J (-1000000004 : Int32) (fun r20 S22 => post r20 S22)) ∧ (¬ ((S14 0 12) = 0) → wX6_earth S14 J a2 (fun r16 => wX6_ones r16 (fun r18 => post (r18 - (S14 0 12)) S14))))))))))))
set_option maxRecDepth 100000 in
set_option maxHeartbeats 4000000 in
theorem kX6_missed (l : Launch) (g : Gl)  (q : Nat → Nat) (sz : Nat) (S : Bun) (J : Lon) (a1 : Int32) (a2 : Int32) (post : Int32 → Bun → Prop) (h : wX6_missed S J a1 a2 post) : Met l yX6_missed wsX6_missed (rmm 5 128) (wPc g E0 ((wM g q) (S, J)) sz [.ref (q 0), .int a1, .int a2]) (va_Qi (fun (r : Int32) (u : Bun × Lon) => u.2 = J ∧ post r u.1) (wB g (wM g q) (va_A ((wM g q) (S, J)) sz)) (va_A ((wM g q) (S, J)) sz)) 0 0 (va_A ((wM g q) (S, J)) sz) := by
  refine mstart (Qf := fun A => va_Qi (fun (r : Int32) (u : Bun × Lon) => u.2 = J ∧ post r u.1) (wB g (wM g q) A) A) (by decide) rfl (Nat.le_of_ble_eq_true rfl) ?_
  intro p e s m args below meth c A Q H locs ls hC hr hlocks hname hQ hA hK hE hw hl
  have hC : CallFix p m c cX6_missed 3 s args wsX6_missed RX6 := hC
  obtain ⟨hx, hb, -, hown, hts⟩ := id hC
  have hl : lv_has ls 3 [(0, .ref (q 0)), (1, .int a1), (2, .int a2)] := hl
  rw [wX6_missed] at h
  have hinX6 : ∀ w ∈ wsX60, w ∈ wsX6_missed := fun w hw9 => List.mem_cons_of_mem _ (List.mem_append_right _ hw9)
  refine lv_aload_n hx hb dX6_missed_0 rfl (lv_at hl 0 rfl) ?_
  refine lv_iload_n hx hb dX6_missed_1 rfl (lv_at hl 1 rfl) ?_
  refine mcalli (w1 := (wM g q)) (va_runV (As := [.int a1]) (rest := []) hC (kX6_isTeam l g  q H.size S J a1 _ h) (cwV 1 hts gX6_missed_X6_isTeam rfl rfl rfl (by decide +kernel) ⟨Nat.le_of_ble_eq_true rfl, Nat.le_of_ble_eq_true rfl⟩) (mpreV E0_ok hK hE hA hw (Sub1.refl _) 0 rfl rfl) rfl rfl hl.1 rfl (lv_room (Nat.le_of_ble_eq_true rfl)) dX6_missed_2 ⟨Nat.zero_le _, Nat.zero_le _⟩) hA hw (Sub1.refl _) (fun _ => Sub.whole rfl) (fun r1 u2 H locs h hw => ?_)
  obtain ⟨hu, h⟩ := h
  replace hu := hu.symm
  subst hu
  obtain ⟨J3, hJ4, h⟩ := h
  have join5 : ∀  (H : Heap) (locs : List Loc) (ls : Array Slot), J3 () → Wd g.1 A s.heap ((wM g q) (S, J)) H locs → lv_has ls 3 [(0, .ref (q 0))] → W p l e (rmm 5 128) s m args below meth c H locs 0 0 Q (F0 m 16 ls []) := by
    intro  H locs ls h hw hl
    replace h := hJ4 () h
    refine lv_aload_n hx hb dX6_missed_16 rfl (lv_at hl 0 rfl) ?_
    refine lv_ldc (v := (-1000000001 : Int32)) hx hb hown (hts (.constant RX6 68 (-1000000001)) (List.mem_of_getElem? (i := 1) rfl)) dX6_missed_17 ?_
    refine mcalli (w1 := (wM g q)) (va_runV (As := [.int (-1000000001 : Int32)]) (rest := []) hC (kX6_finds l g  q H.size S J (-1000000001 : Int32) _ h) (cwV 1 hts gX6_missed_X6_finds rfl rfl rfl (by decide +kernel) ⟨Nat.le_of_ble_eq_true rfl, Nat.le_of_ble_eq_true rfl⟩) (mpreV E0_ok hK hE hA hw (Sub1.refl _) 0 rfl rfl) rfl rfl hl.1 rfl (lv_room (Nat.le_of_ble_eq_true rfl)) dX6_missed_19 ⟨Nat.zero_le _, Nat.zero_le _⟩) hA hw (Sub1.refl _) (fun _ => Sub.whole rfl) (fun r6 u7 H locs h hw => ?_)
    obtain ⟨S8, J9⟩ := u7
    obtain ⟨hu, h⟩ := h
    replace hu : J = J9 := hu.symm
    subst hu
    rw [hQ]
    exact mreti (w := (wM g q)) (u := (S8, J)) hC hr hlocks hK hw ⟨rfl, h⟩ dX6_missed_22
  refine lv_if_eq (tgt := 16) hx hb dX6_missed_5 (by decide) (fun c26 => ?_) (fun c26 => ?_)
  · replace h := h.1 c26
    exact join5  _ _ _ h hw (lv_sub hl [0] rfl)
  · replace h := h.2 c26
    refine lv_aload_n hx hb dX6_missed_8 rfl (lv_at hl 0 rfl) ?_
    refine lv_iload_n hx hb dX6_missed_9 rfl (lv_at hl 2 rfl) ?_
    refine mcalli (w1 := (wM g q)) (va_runV (As := [.int a2]) (rest := []) hC (kX6_isField l g  q H.size S J a2 _ h) (cwV 1 hts gX6_missed_X6_isField rfl rfl rfl (by decide +kernel) ⟨Nat.le_of_ble_eq_true rfl, Nat.le_of_ble_eq_true rfl⟩) (mpreV E0_ok hK hE hA hw (Sub1.refl _) 0 rfl rfl) rfl rfl hl.1 rfl (lv_room (Nat.le_of_ble_eq_true rfl)) dX6_missed_10 ⟨Nat.zero_le _, Nat.zero_le _⟩) hA hw (Sub1.refl _) (fun _ => Sub.whole rfl) (fun r10 u11 H locs h hw => ?_)
    obtain ⟨hu, h⟩ := h
    replace hu := hu.symm
    subst hu
    refine lv_if_ne (tgt := 23) hx hb dX6_missed_13 (by decide) (fun c25 => ?_) (fun c25 => ?_)
    · replace h := h.2 c25
      refine lv_aload_n hx hb dX6_missed_23 rfl (lv_at hl 0 rfl) ?_
      refine lv_iload_n hx hb dX6_missed_24 rfl (lv_at hl 1 rfl) ?_
      refine lv_iload_n hx hb dX6_missed_25 rfl (lv_at hl 2 rfl) ?_
      refine mcallv (w1 := (wM g q)) (va_runV (As := [.int a1, .int a2]) (rest := []) hC (kX6_furrows l g  q H.size S J a1 a2 _ h) (cwV 2 hts gX6_missed_X6_furrows rfl rfl rfl (by decide +kernel) ⟨Nat.le_of_ble_eq_true rfl, Nat.le_of_ble_eq_true rfl⟩) (mpreV E0_ok hK hE hA hw (Sub1.refl _) 0 rfl rfl) rfl rfl hl.1 rfl (lv_room (Nat.le_of_ble_eq_true rfl)) dX6_missed_26 ⟨Nat.zero_le _, Nat.zero_le _⟩) hA hw (Sub1.refl _) (fun _ => Sub.whole rfl) (fun u13 H locs h hw => ?_)
      obtain ⟨S14, J15⟩ := u13
      obtain ⟨hu, h⟩ := h
      replace hu : J = J15 := hu.symm
      subst hu
      refine lv_aload_n hx hb dX6_missed_29 rfl (lv_at hl 0 rfl) ?_
      refine M_mg12 hC hinX6 hK hw (List.mem_of_getElem? (i := 2) rfl) dX6_missed_30 ?_
      refine lv_if_ne (tgt := 45) hx hb dX6_missed_33 (by decide) (fun c24 => ?_) (fun c24 => ?_)
      · replace h := h.2 c24
        refine lv_aload_n hx hb dX6_missed_45 rfl (lv_at hl 0 rfl) ?_
        refine lv_iload_n hx hb dX6_missed_46 rfl (lv_at hl 2 rfl) ?_
        refine mcalli (w1 := (wM g q)) (va_runV (As := [.int a2]) (rest := []) hC (kX6_earth l g  q H.size S14 J a2 _ h) (cwV 1 hts gX6_missed_X6_earth rfl rfl rfl (by decide +kernel) ⟨Nat.le_of_ble_eq_true rfl, Nat.le_of_ble_eq_true rfl⟩) (mpreV E0_ok hK hE hA hw (Sub1.refl _) 0 rfl rfl) rfl rfl hl.1 rfl (lv_room (Nat.le_of_ble_eq_true rfl)) dX6_missed_47 ⟨Nat.zero_le _, Nat.zero_le _⟩) hA hw (Sub1.refl _) (fun _ => Sub.whole rfl) (fun r16 u17 H locs h hw => ?_)
        obtain ⟨hu, h⟩ := h
        replace hu := hu.symm
        subst hu
        refine mcalli (w1 := (fun _ => (wM g q) (S14, J))) (wc := fun _ : Unit => ([] : va_W)) (u := ()) (va_runS (As := [.int r16]) (rest := []) hC (kX6_ones l g  H.size r16 _ h) (va_cwS 1 hts gX6_missed_X6_ones rfl rfl rfl (by decide +kernel) ⟨Nat.le_of_ble_eq_true rfl, Nat.le_of_ble_eq_true rfl⟩) (mpre E0_ok hK hE hA hw (Sub1.nil _)) rfl rfl hl.1 rfl (lv_room (Nat.le_of_ble_eq_true rfl)) dX6_missed_50 ⟨Nat.zero_le _, Nat.zero_le _⟩) hA hw (Sub1.nil _) (fun _ => Sub.nil _) (fun r18 u19 H locs h hw => ?_)
        obtain ⟨_, h⟩ := h
        refine lv_aload_n hx hb dX6_missed_53 rfl (lv_at hl 0 rfl) ?_
        refine M_mg12 hC hinX6 hK hw (List.mem_of_getElem? (i := 2) rfl) dX6_missed_54 ?_
        refine lv_isub hx hb dX6_missed_57 ?_
        rw [hQ]
        exact mreti (w := (wM g q)) (u := (S14, J)) hC hr hlocks hK hw ⟨rfl, h⟩ dX6_missed_58
      · replace h := h.1 c24
        refine lv_aload_n hx hb dX6_missed_36 rfl (lv_at hl 0 rfl) ?_
        refine lv_ldc (v := (-1000000004 : Int32)) hx hb hown (hts (.constant RX6 188 (-1000000004)) (List.mem_of_getElem? (i := 3) rfl)) dX6_missed_37 ?_
        refine mcalli (w1 := (wM g q)) (va_runV (As := [.int (-1000000004 : Int32)]) (rest := []) hC (kX6_finds l g  q H.size S14 J (-1000000004 : Int32) _ h) (cwV 1 hts gX6_missed_X6_finds rfl rfl rfl (by decide +kernel) ⟨Nat.le_of_ble_eq_true rfl, Nat.le_of_ble_eq_true rfl⟩) (mpreV E0_ok hK hE hA hw (Sub1.refl _) 0 rfl rfl) rfl rfl hl.1 rfl (lv_room (Nat.le_of_ble_eq_true rfl)) dX6_missed_39 ⟨Nat.zero_le _, Nat.zero_le _⟩) hA hw (Sub1.refl _) (fun _ => Sub.whole rfl) (fun r20 u21 H locs h hw => ?_)
        obtain ⟨S22, J23⟩ := u21
        obtain ⟨hu, h⟩ := h
        replace hu : J = J23 := hu.symm
        subst hu
        refine lv_goto (tgt := 58) hx hb dX6_missed_42 (by decide) ?_
        rw [hQ]
        exact mreti (w := (wM g q)) (u := (S22, J)) hC hr hlocks hK hw ⟨rfl, h⟩ dX6_missed_58
    · replace h := h.1 c25
      exact join5  _ _ _ h hw (lv_sub hl [0] rfl)
def wX6_stone (S : Bun) (J : Lon) (a1 : Int32) (a2 : Int32) (post : Int32 → Bun → Prop) : Prop :=
  wX6_isTeam S J a1 (fun r1 => wjoin (σ := Unit) (fun _ => wX6_finds S J (-1000000001 : Int32) (fun r6 S8 => post r6 S8)) (fun J3 => ((r1 = 0 → J3 ()) ∧ (¬ (r1 = 0) → wX6_isField S J a2 (fun r10 => ((r10 = 0 → J3 ()) ∧ (¬ (r10 = 0) → wX6_its S J a2 (0 : Int32) (fun r12 => wloop (σ := Int32 × Int32 × Int32 × Bun) (fun K18 z => match z with | (x14, x15, x16, S17) => (((16 : Int32) ≤ x16 → vp_in (((2 : Int32) + ((6 : Int32) * a2)) + (0 : Int32)) 56 ∧ ∀ S24 : Bun, S24 = up S17 1 (((2 : Int32) + ((6 : Int32) * a2)) + (0 : Int32)).toNatClampNeg r12 → ((0 ≤ x14 → post x14 S24) ∧ (¬ (0 ≤ x14) → wX6_finds S24 J (-1000000004 : Int32) (fun r25 S27 => post r25 S27)))) ∧ (¬ ((16 : Int32) ≤ x16) → wX6_has r12 x16 (fun r30 => ((r30 = 0 → ∀ x32 : Int32, x32 = x16 + (1 : Int32) → K18 (x14, x15, x32, S17)) ∧ (¬ (r30 = 0) → vp_in (((2 : Int32) + ((6 : Int32) * a2)) + (0 : Int32)) 56 ∧ ∀ S34 : Bun, S34 = up S17 1 (((2 : Int32) + ((6 : Int32) * a2)) + (0 : Int32)).toNatClampNeg (r12 &&& (((1 : Int32) <<< (x16 &&& 31)) ^^^ (-1 : Int32))) → wX6_costOf S34 J a1 a2 (fun r35 S37 => ((r35 < 0 → ∀ x39 : Int32, x39 = x16 + (1 : Int32) → K18 (x14, x15, x39, S37)) ∧ (¬ (r35 < 0) → ((x14 < 0 → ∀ x41 : Int32, x41 = x16 + (1 : Int32) → K18 (x16, r35, x41, S37)) ∧ (¬ (x14 < 0) → ((x15 ≤ r35 → ∀ x43 : Int32, x43 = x16 + (1 : Int32) → K18 (x14, x15, x43, S37)) ∧ (¬ (x15 ≤ r35) → ∀ x45 : Int32, x45 = x16 + (1 : Int32) → K18 (x16, r35, x45, S37)))))))))))))) ((-1 : Int32), (0 : Int32), (0 : Int32), S)))))))))
set_option maxRecDepth 100000 in
set_option maxHeartbeats 4000000 in
theorem kX6_stone (l : Launch) (g : Gl)  (q : Nat → Nat) (sz : Nat) (S : Bun) (J : Lon) (a1 : Int32) (a2 : Int32) (post : Int32 → Bun → Prop) (h : wX6_stone S J a1 a2 post) : Met l yX6_stone wsX6_stone (rmm 6 150) (wPc g E0 ((wM g q) (S, J)) sz [.ref (q 0), .int a1, .int a2]) (va_Qi (fun (r : Int32) (u : Bun × Lon) => u.2 = J ∧ post r u.1) (wB g (wM g q) (va_A ((wM g q) (S, J)) sz)) (va_A ((wM g q) (S, J)) sz)) 0 0 (va_A ((wM g q) (S, J)) sz) := by
  refine mstart (Qf := fun A => va_Qi (fun (r : Int32) (u : Bun × Lon) => u.2 = J ∧ post r u.1) (wB g (wM g q) A) A) (by decide) rfl (Nat.le_of_ble_eq_true rfl) ?_
  intro p e s m args below meth c A Q H locs ls hC hr hlocks hname hQ hA hK hE hw hl
  have hC : CallFix p m c cX6_stone 8 s args wsX6_stone RX6 := hC
  obtain ⟨hx, hb, -, hown, hts⟩ := id hC
  have hl : lv_has ls 8 [(0, .ref (q 0)), (1, .int a1), (2, .int a2)] := hl
  rw [wX6_stone] at h
  have hinX6 : ∀ w ∈ wsX60, w ∈ wsX6_stone := fun w hw9 => List.mem_cons_of_mem _ (List.mem_append_right _ hw9)
  refine lv_aload_n hx hb dX6_stone_0 rfl (lv_at hl 0 rfl) ?_
  refine lv_iload_n hx hb dX6_stone_1 rfl (lv_at hl 1 rfl) ?_
  refine mcalli (w1 := (wM g q)) (va_runV (As := [.int a1]) (rest := []) hC (kX6_isTeam l g  q H.size S J a1 _ h) (cwV 1 hts gX6_stone_X6_isTeam rfl rfl rfl (by decide +kernel) ⟨Nat.le_of_ble_eq_true rfl, Nat.le_of_ble_eq_true rfl⟩) (mpreV E0_ok hK hE hA hw (Sub1.refl _) 0 rfl rfl) rfl rfl hl.1 rfl (lv_room (Nat.le_of_ble_eq_true rfl)) dX6_stone_2 ⟨Nat.zero_le _, Nat.zero_le _⟩) hA hw (Sub1.refl _) (fun _ => Sub.whole rfl) (fun r1 u2 H locs h hw => ?_)
  obtain ⟨hu, h⟩ := h
  replace hu := hu.symm
  subst hu
  obtain ⟨J3, hJ4, h⟩ := h
  have join5 : ∀  (H : Heap) (locs : List Loc) (ls : Array Slot), J3 () → Wd g.1 A s.heap ((wM g q) (S, J)) H locs → lv_has ls 8 [(0, .ref (q 0))] → W p l e (rmm 6 150) s m args below meth c H locs 0 0 Q (F0 m 16 ls []) := by
    intro  H locs ls h hw hl
    replace h := hJ4 () h
    refine lv_aload_n hx hb dX6_stone_16 rfl (lv_at hl 0 rfl) ?_
    refine lv_ldc (v := (-1000000001 : Int32)) hx hb hown (hts (.constant RX6 68 (-1000000001)) (List.mem_of_getElem? (i := 1) rfl)) dX6_stone_17 ?_
    refine mcalli (w1 := (wM g q)) (va_runV (As := [.int (-1000000001 : Int32)]) (rest := []) hC (kX6_finds l g  q H.size S J (-1000000001 : Int32) _ h) (cwV 1 hts gX6_stone_X6_finds rfl rfl rfl (by decide +kernel) ⟨Nat.le_of_ble_eq_true rfl, Nat.le_of_ble_eq_true rfl⟩) (mpreV E0_ok hK hE hA hw (Sub1.refl _) 0 rfl rfl) rfl rfl hl.1 rfl (lv_room (Nat.le_of_ble_eq_true rfl)) dX6_stone_19 ⟨Nat.zero_le _, Nat.zero_le _⟩) hA hw (Sub1.refl _) (fun _ => Sub.whole rfl) (fun r6 u7 H locs h hw => ?_)
    obtain ⟨S8, J9⟩ := u7
    obtain ⟨hu, h⟩ := h
    replace hu : J = J9 := hu.symm
    subst hu
    rw [hQ]
    exact mreti (w := (wM g q)) (u := (S8, J)) hC hr hlocks hK hw ⟨rfl, h⟩ dX6_stone_22
  refine lv_if_eq (tgt := 16) hx hb dX6_stone_5 (by decide) (fun c53 => ?_) (fun c53 => ?_)
  · replace h := h.1 c53
    exact join5  _ _ _ h hw (lv_sub hl [0] rfl)
  · replace h := h.2 c53
    refine lv_aload_n hx hb dX6_stone_8 rfl (lv_at hl 0 rfl) ?_
    refine lv_iload_n hx hb dX6_stone_9 rfl (lv_at hl 2 rfl) ?_
    refine mcalli (w1 := (wM g q)) (va_runV (As := [.int a2]) (rest := []) hC (kX6_isField l g  q H.size S J a2 _ h) (cwV 1 hts gX6_stone_X6_isField rfl rfl rfl (by decide +kernel) ⟨Nat.le_of_ble_eq_true rfl, Nat.le_of_ble_eq_true rfl⟩) (mpreV E0_ok hK hE hA hw (Sub1.refl _) 0 rfl rfl) rfl rfl hl.1 rfl (lv_room (Nat.le_of_ble_eq_true rfl)) dX6_stone_10 ⟨Nat.zero_le _, Nat.zero_le _⟩) hA hw (Sub1.refl _) (fun _ => Sub.whole rfl) (fun r10 u11 H locs h hw => ?_)
    obtain ⟨hu, h⟩ := h
    replace hu := hu.symm
    subst hu
    refine lv_if_ne (tgt := 23) hx hb dX6_stone_13 (by decide) (fun c52 => ?_) (fun c52 => ?_)
    · replace h := h.2 c52
      refine lv_aload_n hx hb dX6_stone_23 rfl (lv_at hl 0 rfl) ?_
      refine lv_iload_n hx hb dX6_stone_24 rfl (lv_at hl 2 rfl) ?_
      refine lv_iconst (v := (0 : Int32)) hx hb dX6_stone_25 (by decide) ?_
      refine mcalli (w1 := (wM g q)) (va_runV (As := [.int a2, .int (0 : Int32)]) (rest := []) hC (kX6_its l g  q H.size S J a2 (0 : Int32) _ h) (cwV 2 hts gX6_stone_X6_its rfl rfl rfl (by decide +kernel) ⟨Nat.le_of_ble_eq_true rfl, Nat.le_of_ble_eq_true rfl⟩) (mpreV E0_ok hK hE hA hw (Sub1.refl _) 0 rfl rfl) rfl rfl hl.1 rfl (lv_room (Nat.le_of_ble_eq_true rfl)) dX6_stone_26 ⟨Nat.zero_le _, Nat.zero_le _⟩) hA hw (Sub1.refl _) (fun _ => Sub.whole rfl) (fun r12 u13 H locs h hw => ?_)
      obtain ⟨hu, h⟩ := h
      replace hu := hu.symm
      subst hu
      refine lv_istore_n (lv' := [(3, .int r12), (0, .ref (q 0)), (1, .int a1), (2, .int a2)]) hx hb dX6_stone_29 rfl hl (by decide) rfl (fun ls hl => ?_)
      refine lv_iconst (v := (-1 : Int32)) hx hb dX6_stone_30 (by decide) ?_
      refine lv_istore (lv' := [(4, .int (-1 : Int32)), (3, .int r12), (0, .ref (q 0)), (1, .int a1), (2, .int a2)]) hx hb dX6_stone_31 hl (by decide) rfl (fun ls hl => ?_)
      refine lv_iconst (v := (0 : Int32)) hx hb dX6_stone_33 (by decide) ?_
      refine lv_istore (lv' := [(5, .int (0 : Int32)), (4, .int (-1 : Int32)), (3, .int r12), (0, .ref (q 0)), (1, .int a1), (2, .int a2)]) hx hb dX6_stone_34 hl (by decide) rfl (fun ls hl => ?_)
      refine lv_iconst (v := (0 : Int32)) hx hb dX6_stone_36 (by decide) ?_
      refine lv_istore (lv' := [(6, .int (0 : Int32)), (5, .int (0 : Int32)), (4, .int (-1 : Int32)), (3, .int r12), (0, .ref (q 0)), (1, .int a1), (2, .int a2)]) hx hb dX6_stone_37 hl (by decide) rfl (fun ls hl => ?_)
      refine h (fun z => match z with | (x14, x15, x16, S17) => ∀ (H : Heap) (locs : List Loc) (ls : Array Slot), Wd g.1 A s.heap ((wM g q) (S17, J)) H locs → lv_has ls 8 [(0, .ref (q 0)), (1, .int a1), (2, .int a2), (3, .int r12), (4, .int x14), (5, .int x15), (6, .int x16)] → W p l e (rmm 6 150) s m args below meth c H locs 0 0 Q (F0 m 39 ls [])) ?_ _ _ _ hw (lv_sub hl [4, 5, 6, 3, 2, 1, 0] rfl)
      clear h hw hl
      rintro ⟨x14, x15, x16, S17⟩ h H locs ls hw hl
      refine lv_iload hx hb dX6_stone_39 (lv_at hl 6 rfl) ?_
      refine lv_bipush (v := (16 : Int32)) hx hb dX6_stone_41 (by decide) ?_
      refine lv_icmp_ge (tgt := 115) hx hb dX6_stone_43 (by decide) (fun c51 => ?_) (fun c51 => ?_)
      · replace h := h.1 c51
        refine lv_aload_n hx hb dX6_stone_115 rfl (lv_at hl 0 rfl) ?_
        refine M_mg0 hC hinX6 hK hw (List.mem_of_getElem? (i := 2) rfl) dX6_stone_116 ?_
        refine lv_iconst (v := (2 : Int32)) hx hb dX6_stone_119 (by decide) ?_
        refine lv_bipush (v := (6 : Int32)) hx hb dX6_stone_120 (by decide) ?_
        refine lv_iload_n hx hb dX6_stone_122 rfl (lv_at hl 2 rfl) ?_
        refine lv_imul hx hb dX6_stone_123 ?_
        refine lv_iadd hx hb dX6_stone_124 ?_
        refine lv_iconst (v := (0 : Int32)) hx hb dX6_stone_125 (by decide) ?_
        refine lv_iadd hx hb dX6_stone_126 ?_
        refine lv_iload_n hx hb dX6_stone_127 rfl (lv_at hl 3 rfl) ?_
        obtain ⟨hi, h⟩ := h
        refine M_ms0 hC hK hw hi dX6_stone_128 (fun S24 H locs eS24 hw => ?_)
        replace h := h S24 eS24
        refine lv_iload hx hb dX6_stone_129 (lv_at hl 4 rfl) ?_
        refine lv_if_ge (tgt := 143) hx hb dX6_stone_131 (by decide) (fun c29 => ?_) (fun c29 => ?_)
        · replace h := h.1 c29
          refine lv_iload hx hb dX6_stone_143 (lv_at hl 4 rfl) ?_
          rw [hQ]
          exact mreti (w := (wM g q)) (u := (S24, J)) hC hr hlocks hK hw ⟨rfl, h⟩ dX6_stone_145
        · replace h := h.2 c29
          refine lv_aload_n hx hb dX6_stone_134 rfl (lv_at hl 0 rfl) ?_
          refine lv_ldc (v := (-1000000004 : Int32)) hx hb hown (hts (.constant RX6 188 (-1000000004)) (List.mem_of_getElem? (i := 3) rfl)) dX6_stone_135 ?_
          refine mcalli (w1 := (wM g q)) (va_runV (As := [.int (-1000000004 : Int32)]) (rest := []) hC (kX6_finds l g  q H.size S24 J (-1000000004 : Int32) _ h) (cwV 1 hts gX6_stone_X6_finds rfl rfl rfl (by decide +kernel) ⟨Nat.le_of_ble_eq_true rfl, Nat.le_of_ble_eq_true rfl⟩) (mpreV E0_ok hK hE hA hw (Sub1.refl _) 0 rfl rfl) rfl rfl hl.1 rfl (lv_room (Nat.le_of_ble_eq_true rfl)) dX6_stone_137 ⟨Nat.zero_le _, Nat.zero_le _⟩) hA hw (Sub1.refl _) (fun _ => Sub.whole rfl) (fun r25 u26 H locs h hw => ?_)
          obtain ⟨S27, J28⟩ := u26
          obtain ⟨hu, h⟩ := h
          replace hu : J = J28 := hu.symm
          subst hu
          refine lv_goto (tgt := 145) hx hb dX6_stone_140 (by decide) ?_
          rw [hQ]
          exact mreti (w := (wM g q)) (u := (S27, J)) hC hr hlocks hK hw ⟨rfl, h⟩ dX6_stone_145
      · replace h := h.2 c51
        refine lv_iload_n hx hb dX6_stone_46 rfl (lv_at hl 3 rfl) ?_
        refine lv_iload hx hb dX6_stone_47 (lv_at hl 6 rfl) ?_
        refine mcalli (w1 := (fun _ => (wM g q) (S17, J))) (wc := fun _ : Unit => ([] : va_W)) (u := ()) (va_runS (As := [.int r12, .int x16]) (rest := []) hC (kX6_has l g  H.size r12 x16 _ h) (va_cwS 2 hts gX6_stone_X6_has rfl rfl rfl (by decide +kernel) ⟨Nat.le_of_ble_eq_true rfl, Nat.le_of_ble_eq_true rfl⟩) (mpre E0_ok hK hE hA hw (Sub1.nil _)) rfl rfl hl.1 rfl (lv_room (Nat.le_of_ble_eq_true rfl)) dX6_stone_49 ⟨Nat.zero_le _, Nat.zero_le _⟩) hA hw (Sub1.nil _) (fun _ => Sub.nil _) (fun r30 u31 H locs h hw => ?_)
        obtain ⟨_, h⟩ := h
        refine lv_if_eq (tgt := 109) hx hb dX6_stone_52 (by decide) (fun c50 => ?_) (fun c50 => ?_)
        · replace h := h.1 c50
          obtain ⟨x32, ex32⟩ : ∃ y : Int32, y = x16 + (1 : Int32) := ⟨_, rfl⟩
          refine lv_iinc (v := x32) (lv' := [(6, .int x32), (0, .ref (q 0)), (1, .int a1), (2, .int a2), (3, .int r12), (4, .int x14), (5, .int x15)]) hx hb dX6_stone_109 hl (k := 6) rfl (by rw [ex32]; rfl) (by decide) rfl (fun ls hl => ?_)
          replace h := h x32 ex32
          refine lv_goto (tgt := 39) hx hb dX6_stone_112 (by decide) ?_
          exact h _ _ _ hw (lv_sub hl [1, 2, 3, 4, 5, 6, 0] rfl)
        · replace h := h.2 c50
          refine lv_aload_n hx hb dX6_stone_55 rfl (lv_at hl 0 rfl) ?_
          refine M_mg0 hC hinX6 hK hw (List.mem_of_getElem? (i := 2) rfl) dX6_stone_56 ?_
          refine lv_iconst (v := (2 : Int32)) hx hb dX6_stone_59 (by decide) ?_
          refine lv_bipush (v := (6 : Int32)) hx hb dX6_stone_60 (by decide) ?_
          refine lv_iload_n hx hb dX6_stone_62 rfl (lv_at hl 2 rfl) ?_
          refine lv_imul hx hb dX6_stone_63 ?_
          refine lv_iadd hx hb dX6_stone_64 ?_
          refine lv_iconst (v := (0 : Int32)) hx hb dX6_stone_65 (by decide) ?_
          refine lv_iadd hx hb dX6_stone_66 ?_
          refine lv_iload_n hx hb dX6_stone_67 rfl (lv_at hl 3 rfl) ?_
          refine lv_iconst (v := (1 : Int32)) hx hb dX6_stone_68 (by decide) ?_
          refine lv_iload hx hb dX6_stone_69 (lv_at hl 6 rfl) ?_
          refine lv_ishl hx hb dX6_stone_71 ?_
          refine lv_iconst (v := (-1 : Int32)) hx hb dX6_stone_72 (by decide) ?_
          refine lv_ixor hx hb dX6_stone_73 ?_
          refine lv_iand hx hb dX6_stone_74 ?_
          obtain ⟨hi, h⟩ := h
          refine M_ms0 hC hK hw hi dX6_stone_75 (fun S34 H locs eS34 hw => ?_)
          replace h := h S34 eS34
          refine lv_aload_n hx hb dX6_stone_76 rfl (lv_at hl 0 rfl) ?_
          refine lv_iload_n hx hb dX6_stone_77 rfl (lv_at hl 1 rfl) ?_
          refine lv_iload_n hx hb dX6_stone_78 rfl (lv_at hl 2 rfl) ?_
          refine mcalli (w1 := (wM g q)) (va_runV (As := [.int a1, .int a2]) (rest := []) hC (kX6_costOf l g  q H.size S34 J a1 a2 _ h) (cwV 2 hts gX6_stone_X6_costOf rfl rfl rfl (by decide +kernel) ⟨Nat.le_of_ble_eq_true rfl, Nat.le_of_ble_eq_true rfl⟩) (mpreV E0_ok hK hE hA hw (Sub1.refl _) 0 rfl rfl) rfl rfl hl.1 rfl (lv_room (Nat.le_of_ble_eq_true rfl)) dX6_stone_79 ⟨Nat.zero_le _, Nat.zero_le _⟩) hA hw (Sub1.refl _) (fun _ => Sub.whole rfl) (fun r35 u36 H locs h hw => ?_)
          obtain ⟨S37, J38⟩ := u36
          obtain ⟨hu, h⟩ := h
          replace hu : J = J38 := hu.symm
          subst hu
          refine lv_istore (lv' := [(7, .int r35), (0, .ref (q 0)), (1, .int a1), (2, .int a2), (3, .int r12), (4, .int x14), (5, .int x15), (6, .int x16)]) hx hb dX6_stone_82 hl (by decide) rfl (fun ls hl => ?_)
          refine lv_iload hx hb dX6_stone_84 (lv_at hl 0 rfl) ?_
          refine lv_if_lt (tgt := 109) hx hb dX6_stone_86 (by decide) (fun c49 => ?_) (fun c49 => ?_)
          · replace h := h.1 c49
            obtain ⟨x39, ex39⟩ : ∃ y : Int32, y = x16 + (1 : Int32) := ⟨_, rfl⟩
            refine lv_iinc (v := x39) (lv' := [(6, .int x39), (7, .int r35), (0, .ref (q 0)), (1, .int a1), (2, .int a2), (3, .int r12), (4, .int x14), (5, .int x15)]) hx hb dX6_stone_109 hl (k := 7) rfl (by rw [ex39]; rfl) (by decide) rfl (fun ls hl => ?_)
            replace h := h x39 ex39
            refine lv_goto (tgt := 39) hx hb dX6_stone_112 (by decide) ?_
            exact h _ _ _ hw (lv_sub hl [2, 3, 4, 5, 6, 7, 0] rfl)
          · replace h := h.2 c49
            refine lv_iload hx hb dX6_stone_89 (lv_at hl 5 rfl) ?_
            refine lv_if_lt (tgt := 101) hx hb dX6_stone_91 (by decide) (fun c48 => ?_) (fun c48 => ?_)
            · replace h := h.1 c48
              refine lv_iload hx hb dX6_stone_101 (lv_at hl 7 rfl) ?_
              refine lv_istore (lv' := [(4, .int x16), (7, .int r35), (0, .ref (q 0)), (1, .int a1), (2, .int a2), (3, .int r12), (5, .int x15), (6, .int x16)]) hx hb dX6_stone_103 hl (by decide) rfl (fun ls hl => ?_)
              refine lv_iload hx hb dX6_stone_105 (lv_at hl 1 rfl) ?_
              refine lv_istore (lv' := [(5, .int r35), (4, .int x16), (7, .int r35), (0, .ref (q 0)), (1, .int a1), (2, .int a2), (3, .int r12), (6, .int x16)]) hx hb dX6_stone_107 hl (by decide) rfl (fun ls hl => ?_)
              obtain ⟨x41, ex41⟩ : ∃ y : Int32, y = x16 + (1 : Int32) := ⟨_, rfl⟩
              refine lv_iinc (v := x41) (lv' := [(6, .int x41), (5, .int r35), (4, .int x16), (7, .int r35), (0, .ref (q 0)), (1, .int a1), (2, .int a2), (3, .int r12)]) hx hb dX6_stone_109 hl (k := 7) rfl (by rw [ex41]; rfl) (by decide) rfl (fun ls hl => ?_)
              replace h := h x41 ex41
              refine lv_goto (tgt := 39) hx hb dX6_stone_112 (by decide) ?_
              exact h _ _ _ hw (lv_sub hl [4, 5, 6, 7, 2, 1, 0] rfl)
            · replace h := h.2 c48
              refine lv_iload hx hb dX6_stone_94 (lv_at hl 0 rfl) ?_
              refine lv_iload hx hb dX6_stone_96 (lv_at hl 6 rfl) ?_
              refine lv_icmp_ge (tgt := 109) hx hb dX6_stone_98 (by decide) (fun c47 => ?_) (fun c47 => ?_)
              · replace h := h.1 c47
                obtain ⟨x43, ex43⟩ : ∃ y : Int32, y = x16 + (1 : Int32) := ⟨_, rfl⟩
                refine lv_iinc (v := x43) (lv' := [(6, .int x43), (7, .int r35), (0, .ref (q 0)), (1, .int a1), (2, .int a2), (3, .int r12), (4, .int x14), (5, .int x15)]) hx hb dX6_stone_109 hl (k := 7) rfl (by rw [ex43]; rfl) (by decide) rfl (fun ls hl => ?_)
                replace h := h x43 ex43
                refine lv_goto (tgt := 39) hx hb dX6_stone_112 (by decide) ?_
                exact h _ _ _ hw (lv_sub hl [2, 3, 4, 5, 6, 7, 0] rfl)
              · replace h := h.2 c47
                refine lv_iload hx hb dX6_stone_101 (lv_at hl 7 rfl) ?_
                refine lv_istore (lv' := [(4, .int x16), (7, .int r35), (0, .ref (q 0)), (1, .int a1), (2, .int a2), (3, .int r12), (5, .int x15), (6, .int x16)]) hx hb dX6_stone_103 hl (by decide) rfl (fun ls hl => ?_)
                refine lv_iload hx hb dX6_stone_105 (lv_at hl 1 rfl) ?_
                refine lv_istore (lv' := [(5, .int r35), (4, .int x16), (7, .int r35), (0, .ref (q 0)), (1, .int a1), (2, .int a2), (3, .int r12), (6, .int x16)]) hx hb dX6_stone_107 hl (by decide) rfl (fun ls hl => ?_)
                obtain ⟨x45, ex45⟩ : ∃ y : Int32, y = x16 + (1 : Int32) := ⟨_, rfl⟩
                refine lv_iinc (v := x45) (lv' := [(6, .int x45), (5, .int r35), (4, .int x16), (7, .int r35), (0, .ref (q 0)), (1, .int a1), (2, .int a2), (3, .int r12)]) hx hb dX6_stone_109 hl (k := 7) rfl (by rw [ex45]; rfl) (by decide) rfl (fun ls hl => ?_)
                replace h := h x45 ex45
                refine lv_goto (tgt := 39) hx hb dX6_stone_112 (by decide) ?_
                exact h _ _ _ hw (lv_sub hl [4, 5, 6, 7, 2, 1, 0] rfl)
    · replace h := h.1 c52
      exact join5  _ _ _ h hw (lv_sub hl [0] rfl)
def wX6_gate (S : Bun) (J : Lon) (a1 : Int32) (a2 : Int32) (a3 : Int32) (post : Int32 → Bun → Prop) : Prop :=
  wX6_isTeam S J a1 (fun r1 => wjoin (σ := Unit) (fun _ => wX6_finds S J (-1000000001 : Int32) (fun r6 S8 => post r6 S8)) (fun J3 => ((r1 = 0 → J3 ()) ∧ (¬ (r1 = 0) → wX6_isField S J a2 (fun r10 => ((r10 = 0 → J3 ()) ∧ (¬ (r10 = 0) → wX6_in a3.toInt64 (2 : Int64) (3 : Int64) (fun r12 => ((r12 = 0 → J3 ()) ∧ (¬ (r12 = 0) → wX6_its S J a2 a3 (fun r14 => wloop (σ := Int32 × Int32 × Int32 × Bun) (fun K20 z => match z with | (x16, x17, x18, S19) => (((16 : Int32) ≤ x18 → vp_in (((2 : Int32) + ((6 : Int32) * a2)) + a3) 56 ∧ ∀ S26 : Bun, S26 = up S19 1 (((2 : Int32) + ((6 : Int32) * a2)) + a3).toNatClampNeg r14 → ((0 ≤ x16 → post x16 S26) ∧ (¬ (0 ≤ x16) → wX6_finds S26 J (-1000000004 : Int32) (fun r27 S29 => post r27 S29)))) ∧ (¬ ((16 : Int32) ≤ x18) → vp_in (((2 : Int32) + ((6 : Int32) * a2)) + a3) 56 ∧ ∀ S32 : Bun, S32 = up S19 1 (((2 : Int32) + ((6 : Int32) * a2)) + a3).toNatClampNeg x18 → wX6_costOf S32 J a1 a2 (fun r33 S35 => ((r33 < 0 → ∀ x37 : Int32, x37 = x18 + (1 : Int32) → K20 (x16, x17, x37, S35)) ∧ (¬ (r33 < 0) → ((x16 < 0 → ∀ x39 : Int32, x39 = x18 + (1 : Int32) → K20 (x18, r33, x39, S35)) ∧ (¬ (x16 < 0) → ((x17 ≤ r33 → ∀ x41 : Int32, x41 = x18 + (1 : Int32) → K20 (x16, x17, x41, S35)) ∧ (¬ (x17 ≤ r33) → ∀ x43 : Int32, x43 = x18 + (1 : Int32) → K20 (x18, r33, x43, S35))))))))))) ((-1 : Int32), (0 : Int32), (0 : Int32), S))))))))))))
set_option maxRecDepth 100000 in
set_option maxHeartbeats 4000000 in
theorem kX6_gate (l : Launch) (g : Gl)  (q : Nat → Nat) (sz : Nat) (S : Bun) (J : Lon) (a1 : Int32) (a2 : Int32) (a3 : Int32) (post : Int32 → Bun → Prop) (h : wX6_gate S J a1 a2 a3 post) : Met l yX6_gate wsX6_gate (rmm 6 150) (wPc g E0 ((wM g q) (S, J)) sz [.ref (q 0), .int a1, .int a2, .int a3]) (va_Qi (fun (r : Int32) (u : Bun × Lon) => u.2 = J ∧ post r u.1) (wB g (wM g q) (va_A ((wM g q) (S, J)) sz)) (va_A ((wM g q) (S, J)) sz)) 0 0 (va_A ((wM g q) (S, J)) sz) := by
  refine mstart (Qf := fun A => va_Qi (fun (r : Int32) (u : Bun × Lon) => u.2 = J ∧ post r u.1) (wB g (wM g q) A) A) (by decide) rfl (Nat.le_of_ble_eq_true rfl) ?_
  intro p e s m args below meth c A Q H locs ls hC hr hlocks hname hQ hA hK hE hw hl
  have hC : CallFix p m c cX6_gate 9 s args wsX6_gate RX6 := hC
  obtain ⟨hx, hb, -, hown, hts⟩ := id hC
  have hl : lv_has ls 9 [(0, .ref (q 0)), (1, .int a1), (2, .int a2), (3, .int a3)] := hl
  rw [wX6_gate] at h
  have hinX6 : ∀ w ∈ wsX60, w ∈ wsX6_gate := fun w hw9 => List.mem_cons_of_mem _ (List.mem_append_right _ hw9)
  refine lv_aload_n hx hb dX6_gate_0 rfl (lv_at hl 0 rfl) ?_
  refine lv_iload_n hx hb dX6_gate_1 rfl (lv_at hl 1 rfl) ?_
  refine mcalli (w1 := (wM g q)) (va_runV (As := [.int a1]) (rest := []) hC (kX6_isTeam l g  q H.size S J a1 _ h) (cwV 1 hts gX6_gate_X6_isTeam rfl rfl rfl (by decide +kernel) ⟨Nat.le_of_ble_eq_true rfl, Nat.le_of_ble_eq_true rfl⟩) (mpreV E0_ok hK hE hA hw (Sub1.refl _) 0 rfl rfl) rfl rfl hl.1 rfl (lv_room (Nat.le_of_ble_eq_true rfl)) dX6_gate_2 ⟨Nat.zero_le _, Nat.zero_le _⟩) hA hw (Sub1.refl _) (fun _ => Sub.whole rfl) (fun r1 u2 H locs h hw => ?_)
  obtain ⟨hu, h⟩ := h
  replace hu := hu.symm
  subst hu
  obtain ⟨J3, hJ4, h⟩ := h
  have join5 : ∀  (H : Heap) (locs : List Loc) (ls : Array Slot), J3 () → Wd g.1 A s.heap ((wM g q) (S, J)) H locs → lv_has ls 9 [(0, .ref (q 0))] → W p l e (rmm 6 150) s m args below meth c H locs 0 0 Q (F0 m 30 ls []) := by
    intro  H locs ls h hw hl
    replace h := hJ4 () h
    refine lv_aload_n hx hb dX6_gate_30 rfl (lv_at hl 0 rfl) ?_
    refine lv_ldc (v := (-1000000001 : Int32)) hx hb hown (hts (.constant RX6 68 (-1000000001)) (List.mem_of_getElem? (i := 3) rfl)) dX6_gate_31 ?_
    refine mcalli (w1 := (wM g q)) (va_runV (As := [.int (-1000000001 : Int32)]) (rest := []) hC (kX6_finds l g  q H.size S J (-1000000001 : Int32) _ h) (cwV 1 hts gX6_gate_X6_finds rfl rfl rfl (by decide +kernel) ⟨Nat.le_of_ble_eq_true rfl, Nat.le_of_ble_eq_true rfl⟩) (mpreV E0_ok hK hE hA hw (Sub1.refl _) 0 rfl rfl) rfl rfl hl.1 rfl (lv_room (Nat.le_of_ble_eq_true rfl)) dX6_gate_33 ⟨Nat.zero_le _, Nat.zero_le _⟩) hA hw (Sub1.refl _) (fun _ => Sub.whole rfl) (fun r6 u7 H locs h hw => ?_)
    obtain ⟨S8, J9⟩ := u7
    obtain ⟨hu, h⟩ := h
    replace hu : J = J9 := hu.symm
    subst hu
    rw [hQ]
    exact mreti (w := (wM g q)) (u := (S8, J)) hC hr hlocks hK hw ⟨rfl, h⟩ dX6_gate_36
  refine lv_if_eq (tgt := 30) hx hb dX6_gate_5 (by decide) (fun c51 => ?_) (fun c51 => ?_)
  · replace h := h.1 c51
    exact join5  _ _ _ h hw (lv_sub hl [0] rfl)
  · replace h := h.2 c51
    refine lv_aload_n hx hb dX6_gate_8 rfl (lv_at hl 0 rfl) ?_
    refine lv_iload_n hx hb dX6_gate_9 rfl (lv_at hl 2 rfl) ?_
    refine mcalli (w1 := (wM g q)) (va_runV (As := [.int a2]) (rest := []) hC (kX6_isField l g  q H.size S J a2 _ h) (cwV 1 hts gX6_gate_X6_isField rfl rfl rfl (by decide +kernel) ⟨Nat.le_of_ble_eq_true rfl, Nat.le_of_ble_eq_true rfl⟩) (mpreV E0_ok hK hE hA hw (Sub1.refl _) 0 rfl rfl) rfl rfl hl.1 rfl (lv_room (Nat.le_of_ble_eq_true rfl)) dX6_gate_10 ⟨Nat.zero_le _, Nat.zero_le _⟩) hA hw (Sub1.refl _) (fun _ => Sub.whole rfl) (fun r10 u11 H locs h hw => ?_)
    obtain ⟨hu, h⟩ := h
    replace hu := hu.symm
    subst hu
    refine lv_if_eq (tgt := 30) hx hb dX6_gate_13 (by decide) (fun c50 => ?_) (fun c50 => ?_)
    · replace h := h.1 c50
      exact join5  _ _ _ h hw (lv_sub hl [0] rfl)
    · replace h := h.2 c50
      refine lv_iload_n hx hb dX6_gate_16 rfl (lv_at hl 3 rfl) ?_
      refine lv_i2l (v := a3.toInt64) hx hb dX6_gate_17 rfl ?_
      refine lv_ldc2 (v := (2 : Int64)) hx hb hown (hts (.constantLong RX6 125 (2)) (List.mem_of_getElem? (i := 1) rfl)) dX6_gate_18 ?_
      refine lv_ldc2 (v := (3 : Int64)) hx hb hown (hts (.constantLong RX6 144 (3)) (List.mem_of_getElem? (i := 2) rfl)) dX6_gate_21 ?_
      refine mcalli (w1 := (fun _ => (wM g q) (S, J))) (wc := fun _ : Unit => ([] : va_W)) (u := ()) (va_runS (As := [.long a3.toInt64, .long (2 : Int64), .long (3 : Int64)]) (rest := []) hC (kX6_in l g  H.size a3.toInt64 (2 : Int64) (3 : Int64) _ h) (va_cwS 3 hts gX6_gate_X6_in rfl rfl rfl (by decide +kernel) ⟨Nat.le_of_ble_eq_true rfl, Nat.le_of_ble_eq_true rfl⟩) (mpre E0_ok hK hE hA hw (Sub1.nil _)) rfl rfl hl.1 rfl (lv_room (Nat.le_of_ble_eq_true rfl)) dX6_gate_24 ⟨Nat.zero_le _, Nat.zero_le _⟩) hA hw (Sub1.nil _) (fun _ => Sub.nil _) (fun r12 u13 H locs h hw => ?_)
      obtain ⟨_, h⟩ := h
      refine lv_if_ne (tgt := 37) hx hb dX6_gate_27 (by decide) (fun c49 => ?_) (fun c49 => ?_)
      · replace h := h.2 c49
        refine lv_aload_n hx hb dX6_gate_37 rfl (lv_at hl 0 rfl) ?_
        refine lv_iload_n hx hb dX6_gate_38 rfl (lv_at hl 2 rfl) ?_
        refine lv_iload_n hx hb dX6_gate_39 rfl (lv_at hl 3 rfl) ?_
        refine mcalli (w1 := (wM g q)) (va_runV (As := [.int a2, .int a3]) (rest := []) hC (kX6_its l g  q H.size S J a2 a3 _ h) (cwV 2 hts gX6_gate_X6_its rfl rfl rfl (by decide +kernel) ⟨Nat.le_of_ble_eq_true rfl, Nat.le_of_ble_eq_true rfl⟩) (mpreV E0_ok hK hE hA hw (Sub1.refl _) 0 rfl rfl) rfl rfl hl.1 rfl (lv_room (Nat.le_of_ble_eq_true rfl)) dX6_gate_40 ⟨Nat.zero_le _, Nat.zero_le _⟩) hA hw (Sub1.refl _) (fun _ => Sub.whole rfl) (fun r14 u15 H locs h hw => ?_)
        obtain ⟨hu, h⟩ := h
        replace hu := hu.symm
        subst hu
        refine lv_istore (lv' := [(4, .int r14), (0, .ref (q 0)), (1, .int a1), (2, .int a2), (3, .int a3)]) hx hb dX6_gate_43 hl (by decide) rfl (fun ls hl => ?_)
        refine lv_iconst (v := (-1 : Int32)) hx hb dX6_gate_45 (by decide) ?_
        refine lv_istore (lv' := [(5, .int (-1 : Int32)), (4, .int r14), (0, .ref (q 0)), (1, .int a1), (2, .int a2), (3, .int a3)]) hx hb dX6_gate_46 hl (by decide) rfl (fun ls hl => ?_)
        refine lv_iconst (v := (0 : Int32)) hx hb dX6_gate_48 (by decide) ?_
        refine lv_istore (lv' := [(6, .int (0 : Int32)), (5, .int (-1 : Int32)), (4, .int r14), (0, .ref (q 0)), (1, .int a1), (2, .int a2), (3, .int a3)]) hx hb dX6_gate_49 hl (by decide) rfl (fun ls hl => ?_)
        refine lv_iconst (v := (0 : Int32)) hx hb dX6_gate_51 (by decide) ?_
        refine lv_istore (lv' := [(7, .int (0 : Int32)), (6, .int (0 : Int32)), (5, .int (-1 : Int32)), (4, .int r14), (0, .ref (q 0)), (1, .int a1), (2, .int a2), (3, .int a3)]) hx hb dX6_gate_52 hl (by decide) rfl (fun ls hl => ?_)
        refine h (fun z => match z with | (x16, x17, x18, S19) => ∀ (H : Heap) (locs : List Loc) (ls : Array Slot), Wd g.1 A s.heap ((wM g q) (S19, J)) H locs → lv_has ls 9 [(0, .ref (q 0)), (1, .int a1), (2, .int a2), (3, .int a3), (4, .int r14), (5, .int x16), (6, .int x17), (7, .int x18)] → W p l e (rmm 6 150) s m args below meth c H locs 0 0 Q (F0 m 54 ls [])) ?_ _ _ _ hw (lv_sub hl [4, 5, 6, 7, 3, 2, 1, 0] rfl)
        clear h hw hl
        rintro ⟨x16, x17, x18, S19⟩ h H locs ls hw hl
        refine lv_iload hx hb dX6_gate_54 (lv_at hl 7 rfl) ?_
        refine lv_bipush (v := (16 : Int32)) hx hb dX6_gate_56 (by decide) ?_
        refine lv_icmp_ge (tgt := 115) hx hb dX6_gate_58 (by decide) (fun c48 => ?_) (fun c48 => ?_)
        · replace h := h.1 c48
          refine lv_aload_n hx hb dX6_gate_115 rfl (lv_at hl 0 rfl) ?_
          refine M_mg0 hC hinX6 hK hw (List.mem_of_getElem? (i := 4) rfl) dX6_gate_116 ?_
          refine lv_iconst (v := (2 : Int32)) hx hb dX6_gate_119 (by decide) ?_
          refine lv_bipush (v := (6 : Int32)) hx hb dX6_gate_120 (by decide) ?_
          refine lv_iload_n hx hb dX6_gate_122 rfl (lv_at hl 2 rfl) ?_
          refine lv_imul hx hb dX6_gate_123 ?_
          refine lv_iadd hx hb dX6_gate_124 ?_
          refine lv_iload_n hx hb dX6_gate_125 rfl (lv_at hl 3 rfl) ?_
          refine lv_iadd hx hb dX6_gate_126 ?_
          refine lv_iload hx hb dX6_gate_127 (lv_at hl 4 rfl) ?_
          obtain ⟨hi, h⟩ := h
          refine M_ms0 hC hK hw hi dX6_gate_129 (fun S26 H locs eS26 hw => ?_)
          replace h := h S26 eS26
          refine lv_iload hx hb dX6_gate_130 (lv_at hl 5 rfl) ?_
          refine lv_if_ge (tgt := 144) hx hb dX6_gate_132 (by decide) (fun c31 => ?_) (fun c31 => ?_)
          · replace h := h.1 c31
            refine lv_iload hx hb dX6_gate_144 (lv_at hl 5 rfl) ?_
            rw [hQ]
            exact mreti (w := (wM g q)) (u := (S26, J)) hC hr hlocks hK hw ⟨rfl, h⟩ dX6_gate_146
          · replace h := h.2 c31
            refine lv_aload_n hx hb dX6_gate_135 rfl (lv_at hl 0 rfl) ?_
            refine lv_ldc (v := (-1000000004 : Int32)) hx hb hown (hts (.constant RX6 188 (-1000000004)) (List.mem_of_getElem? (i := 5) rfl)) dX6_gate_136 ?_
            refine mcalli (w1 := (wM g q)) (va_runV (As := [.int (-1000000004 : Int32)]) (rest := []) hC (kX6_finds l g  q H.size S26 J (-1000000004 : Int32) _ h) (cwV 1 hts gX6_gate_X6_finds rfl rfl rfl (by decide +kernel) ⟨Nat.le_of_ble_eq_true rfl, Nat.le_of_ble_eq_true rfl⟩) (mpreV E0_ok hK hE hA hw (Sub1.refl _) 0 rfl rfl) rfl rfl hl.1 rfl (lv_room (Nat.le_of_ble_eq_true rfl)) dX6_gate_138 ⟨Nat.zero_le _, Nat.zero_le _⟩) hA hw (Sub1.refl _) (fun _ => Sub.whole rfl) (fun r27 u28 H locs h hw => ?_)
            obtain ⟨S29, J30⟩ := u28
            obtain ⟨hu, h⟩ := h
            replace hu : J = J30 := hu.symm
            subst hu
            refine lv_goto (tgt := 146) hx hb dX6_gate_141 (by decide) ?_
            rw [hQ]
            exact mreti (w := (wM g q)) (u := (S29, J)) hC hr hlocks hK hw ⟨rfl, h⟩ dX6_gate_146
        · replace h := h.2 c48
          refine lv_aload_n hx hb dX6_gate_61 rfl (lv_at hl 0 rfl) ?_
          refine M_mg0 hC hinX6 hK hw (List.mem_of_getElem? (i := 4) rfl) dX6_gate_62 ?_
          refine lv_iconst (v := (2 : Int32)) hx hb dX6_gate_65 (by decide) ?_
          refine lv_bipush (v := (6 : Int32)) hx hb dX6_gate_66 (by decide) ?_
          refine lv_iload_n hx hb dX6_gate_68 rfl (lv_at hl 2 rfl) ?_
          refine lv_imul hx hb dX6_gate_69 ?_
          refine lv_iadd hx hb dX6_gate_70 ?_
          refine lv_iload_n hx hb dX6_gate_71 rfl (lv_at hl 3 rfl) ?_
          refine lv_iadd hx hb dX6_gate_72 ?_
          refine lv_iload hx hb dX6_gate_73 (lv_at hl 7 rfl) ?_
          obtain ⟨hi, h⟩ := h
          refine M_ms0 hC hK hw hi dX6_gate_75 (fun S32 H locs eS32 hw => ?_)
          replace h := h S32 eS32
          refine lv_aload_n hx hb dX6_gate_76 rfl (lv_at hl 0 rfl) ?_
          refine lv_iload_n hx hb dX6_gate_77 rfl (lv_at hl 1 rfl) ?_
          refine lv_iload_n hx hb dX6_gate_78 rfl (lv_at hl 2 rfl) ?_
          refine mcalli (w1 := (wM g q)) (va_runV (As := [.int a1, .int a2]) (rest := []) hC (kX6_costOf l g  q H.size S32 J a1 a2 _ h) (cwV 2 hts gX6_gate_X6_costOf rfl rfl rfl (by decide +kernel) ⟨Nat.le_of_ble_eq_true rfl, Nat.le_of_ble_eq_true rfl⟩) (mpreV E0_ok hK hE hA hw (Sub1.refl _) 0 rfl rfl) rfl rfl hl.1 rfl (lv_room (Nat.le_of_ble_eq_true rfl)) dX6_gate_79 ⟨Nat.zero_le _, Nat.zero_le _⟩) hA hw (Sub1.refl _) (fun _ => Sub.whole rfl) (fun r33 u34 H locs h hw => ?_)
          obtain ⟨S35, J36⟩ := u34
          obtain ⟨hu, h⟩ := h
          replace hu : J = J36 := hu.symm
          subst hu
          refine lv_istore (lv' := [(8, .int r33), (0, .ref (q 0)), (1, .int a1), (2, .int a2), (3, .int a3), (4, .int r14), (5, .int x16), (6, .int x17), (7, .int x18)]) hx hb dX6_gate_82 hl (by decide) rfl (fun ls hl => ?_)
          refine lv_iload hx hb dX6_gate_84 (lv_at hl 0 rfl) ?_
          refine lv_if_lt (tgt := 109) hx hb dX6_gate_86 (by decide) (fun c47 => ?_) (fun c47 => ?_)
          · replace h := h.1 c47
            obtain ⟨x37, ex37⟩ : ∃ y : Int32, y = x18 + (1 : Int32) := ⟨_, rfl⟩
            refine lv_iinc (v := x37) (lv' := [(7, .int x37), (8, .int r33), (0, .ref (q 0)), (1, .int a1), (2, .int a2), (3, .int a3), (4, .int r14), (5, .int x16), (6, .int x17)]) hx hb dX6_gate_109 hl (k := 8) rfl (by rw [ex37]; rfl) (by decide) rfl (fun ls hl => ?_)
            replace h := h x37 ex37
            refine lv_goto (tgt := 54) hx hb dX6_gate_112 (by decide) ?_
            exact h _ _ _ hw (lv_sub hl [2, 3, 4, 5, 6, 7, 8, 0] rfl)
          · replace h := h.2 c47
            refine lv_iload hx hb dX6_gate_89 (lv_at hl 6 rfl) ?_
            refine lv_if_lt (tgt := 101) hx hb dX6_gate_91 (by decide) (fun c46 => ?_) (fun c46 => ?_)
            · replace h := h.1 c46
              refine lv_iload hx hb dX6_gate_101 (lv_at hl 8 rfl) ?_
              refine lv_istore (lv' := [(5, .int x18), (8, .int r33), (0, .ref (q 0)), (1, .int a1), (2, .int a2), (3, .int a3), (4, .int r14), (6, .int x17), (7, .int x18)]) hx hb dX6_gate_103 hl (by decide) rfl (fun ls hl => ?_)
              refine lv_iload hx hb dX6_gate_105 (lv_at hl 1 rfl) ?_
              refine lv_istore (lv' := [(6, .int r33), (5, .int x18), (8, .int r33), (0, .ref (q 0)), (1, .int a1), (2, .int a2), (3, .int a3), (4, .int r14), (7, .int x18)]) hx hb dX6_gate_107 hl (by decide) rfl (fun ls hl => ?_)
              obtain ⟨x39, ex39⟩ : ∃ y : Int32, y = x18 + (1 : Int32) := ⟨_, rfl⟩
              refine lv_iinc (v := x39) (lv' := [(7, .int x39), (6, .int r33), (5, .int x18), (8, .int r33), (0, .ref (q 0)), (1, .int a1), (2, .int a2), (3, .int a3), (4, .int r14)]) hx hb dX6_gate_109 hl (k := 8) rfl (by rw [ex39]; rfl) (by decide) rfl (fun ls hl => ?_)
              replace h := h x39 ex39
              refine lv_goto (tgt := 54) hx hb dX6_gate_112 (by decide) ?_
              exact h _ _ _ hw (lv_sub hl [4, 5, 6, 7, 8, 2, 1, 0] rfl)
            · replace h := h.2 c46
              refine lv_iload hx hb dX6_gate_94 (lv_at hl 0 rfl) ?_
              refine lv_iload hx hb dX6_gate_96 (lv_at hl 7 rfl) ?_
              refine lv_icmp_ge (tgt := 109) hx hb dX6_gate_98 (by decide) (fun c45 => ?_) (fun c45 => ?_)
              · replace h := h.1 c45
                obtain ⟨x41, ex41⟩ : ∃ y : Int32, y = x18 + (1 : Int32) := ⟨_, rfl⟩
                refine lv_iinc (v := x41) (lv' := [(7, .int x41), (8, .int r33), (0, .ref (q 0)), (1, .int a1), (2, .int a2), (3, .int a3), (4, .int r14), (5, .int x16), (6, .int x17)]) hx hb dX6_gate_109 hl (k := 8) rfl (by rw [ex41]; rfl) (by decide) rfl (fun ls hl => ?_)
                replace h := h x41 ex41
                refine lv_goto (tgt := 54) hx hb dX6_gate_112 (by decide) ?_
                exact h _ _ _ hw (lv_sub hl [2, 3, 4, 5, 6, 7, 8, 0] rfl)
              · replace h := h.2 c45
                refine lv_iload hx hb dX6_gate_101 (lv_at hl 8 rfl) ?_
                refine lv_istore (lv' := [(5, .int x18), (8, .int r33), (0, .ref (q 0)), (1, .int a1), (2, .int a2), (3, .int a3), (4, .int r14), (6, .int x17), (7, .int x18)]) hx hb dX6_gate_103 hl (by decide) rfl (fun ls hl => ?_)
                refine lv_iload hx hb dX6_gate_105 (lv_at hl 1 rfl) ?_
                refine lv_istore (lv' := [(6, .int r33), (5, .int x18), (8, .int r33), (0, .ref (q 0)), (1, .int a1), (2, .int a2), (3, .int a3), (4, .int r14), (7, .int x18)]) hx hb dX6_gate_107 hl (by decide) rfl (fun ls hl => ?_)
                obtain ⟨x43, ex43⟩ : ∃ y : Int32, y = x18 + (1 : Int32) := ⟨_, rfl⟩
                refine lv_iinc (v := x43) (lv' := [(7, .int x43), (6, .int r33), (5, .int x18), (8, .int r33), (0, .ref (q 0)), (1, .int a1), (2, .int a2), (3, .int a3), (4, .int r14)]) hx hb dX6_gate_109 hl (k := 8) rfl (by rw [ex43]; rfl) (by decide) rfl (fun ls hl => ?_)
                replace h := h x43 ex43
                refine lv_goto (tgt := 54) hx hb dX6_gate_112 (by decide) ?_
                exact h _ _ _ hw (lv_sub hl [4, 5, 6, 7, 8, 2, 1, 0] rfl)
      · replace h := h.1 c49
        exact join5  _ _ _ h hw (lv_sub hl [0] rfl)
def wX6_whose (S : Bun) (J : Lon) (a1 : Int32) (post : Int32 → Bun → Prop) : Prop :=
  wX6_isField S J a1 (fun r1 => ((r1 = 0 → wX6_finds S J (-1000000001 : Int32) (fun r34 S36 => post r34 S36)) ∧ (¬ (r1 = 0) → wloop (σ := Int32 × Int32 × Int32 × Bun) (fun K7 z => match z with | (x3, x4, x5, S6) => vp_in (1 : Int32) 56 ∧ (((S6 1 (1 : Int32).toNatClampNeg) ≤ x5 → ((0 ≤ x3 → post x3 S6) ∧ (¬ (0 ≤ x3) → wX6_finds S6 J (-1000000004 : Int32) (fun r13 S15 => post r13 S15)))) ∧ (¬ ((S6 1 (1 : Int32).toNatClampNeg) ≤ x5) → wX6_costOf S6 J x5 a1 (fun r18 S20 => ((r18 < 0 → ∀ x22 : Int32, x22 = x5 + (1 : Int32) → K7 (x3, x4, x22, S20)) ∧ (¬ (r18 < 0) → ((x3 < 0 → ∀ x24 : Int32, x24 = x5 + (1 : Int32) → K7 (x5, r18, x24, S20)) ∧ (¬ (x3 < 0) → ((x4 ≤ r18 → ∀ x26 : Int32, x26 = x5 + (1 : Int32) → K7 (x3, x4, x26, S20)) ∧ (¬ (x4 ≤ r18) → ∀ x28 : Int32, x28 = x5 + (1 : Int32) → K7 (x5, r18, x28, S20))))))))))) ((-1 : Int32), (0 : Int32), (0 : Int32), S))))
set_option maxRecDepth 100000 in
set_option maxHeartbeats 4000000 in
theorem kX6_whose (l : Launch) (g : Gl)  (q : Nat → Nat) (sz : Nat) (S : Bun) (J : Lon) (a1 : Int32) (post : Int32 → Bun → Prop) (h : wX6_whose S J a1 post) : Met l yX6_whose wsX6_whose (rmm 6 150) (wPc g E0 ((wM g q) (S, J)) sz [.ref (q 0), .int a1]) (va_Qi (fun (r : Int32) (u : Bun × Lon) => u.2 = J ∧ post r u.1) (wB g (wM g q) (va_A ((wM g q) (S, J)) sz)) (va_A ((wM g q) (S, J)) sz)) 0 0 (va_A ((wM g q) (S, J)) sz) := by
  refine mstart (Qf := fun A => va_Qi (fun (r : Int32) (u : Bun × Lon) => u.2 = J ∧ post r u.1) (wB g (wM g q) A) A) (by decide) rfl (Nat.le_of_ble_eq_true rfl) ?_
  intro p e s m args below meth c A Q H locs ls hC hr hlocks hname hQ hA hK hE hw hl
  have hC : CallFix p m c cX6_whose 6 s args wsX6_whose RX6 := hC
  obtain ⟨hx, hb, -, hown, hts⟩ := id hC
  have hl : lv_has ls 6 [(0, .ref (q 0)), (1, .int a1)] := hl
  rw [wX6_whose] at h
  have hinX6 : ∀ w ∈ wsX60, w ∈ wsX6_whose := fun w hw9 => List.mem_cons_of_mem _ (List.mem_append_right _ hw9)
  refine lv_aload_n hx hb dX6_whose_0 rfl (lv_at hl 0 rfl) ?_
  refine lv_iload_n hx hb dX6_whose_1 rfl (lv_at hl 1 rfl) ?_
  refine mcalli (w1 := (wM g q)) (va_runV (As := [.int a1]) (rest := []) hC (kX6_isField l g  q H.size S J a1 _ h) (cwV 1 hts gX6_whose_X6_isField rfl rfl rfl (by decide +kernel) ⟨Nat.le_of_ble_eq_true rfl, Nat.le_of_ble_eq_true rfl⟩) (mpreV E0_ok hK hE hA hw (Sub1.refl _) 0 rfl rfl) rfl rfl hl.1 rfl (lv_room (Nat.le_of_ble_eq_true rfl)) dX6_whose_2 ⟨Nat.zero_le _, Nat.zero_le _⟩) hA hw (Sub1.refl _) (fun _ => Sub.whole rfl) (fun r1 u2 H locs h hw => ?_)
  obtain ⟨hu, h⟩ := h
  replace hu := hu.symm
  subst hu
  refine lv_if_ne (tgt := 15) hx hb dX6_whose_5 (by decide) (fun c38 => ?_) (fun c38 => ?_)
  · replace h := h.2 c38
    refine lv_iconst (v := (-1 : Int32)) hx hb dX6_whose_15 (by decide) ?_
    refine lv_istore_n (lv' := [(2, .int (-1 : Int32)), (0, .ref (q 0)), (1, .int a1)]) hx hb dX6_whose_16 rfl hl (by decide) rfl (fun ls hl => ?_)
    refine lv_iconst (v := (0 : Int32)) hx hb dX6_whose_17 (by decide) ?_
    refine lv_istore_n (lv' := [(3, .int (0 : Int32)), (2, .int (-1 : Int32)), (0, .ref (q 0)), (1, .int a1)]) hx hb dX6_whose_18 rfl hl (by decide) rfl (fun ls hl => ?_)
    refine lv_iconst (v := (0 : Int32)) hx hb dX6_whose_19 (by decide) ?_
    refine lv_istore (lv' := [(4, .int (0 : Int32)), (3, .int (0 : Int32)), (2, .int (-1 : Int32)), (0, .ref (q 0)), (1, .int a1)]) hx hb dX6_whose_20 hl (by decide) rfl (fun ls hl => ?_)
    refine h (fun z => match z with | (x3, x4, x5, S6) => ∀ (H : Heap) (locs : List Loc) (ls : Array Slot), Wd g.1 A s.heap ((wM g q) (S6, J)) H locs → lv_has ls 6 [(0, .ref (q 0)), (1, .int a1), (2, .int x3), (3, .int x4), (4, .int x5)] → W p l e (rmm 6 150) s m args below meth c H locs 0 0 Q (F0 m 22 ls [])) ?_ _ _ _ hw (lv_sub hl [3, 4, 2, 1, 0] rfl)
    clear h hw hl
    rintro ⟨x3, x4, x5, S6⟩ h H locs ls hw hl
    refine lv_iload hx hb dX6_whose_22 (lv_at hl 4 rfl) ?_
    refine lv_aload_n hx hb dX6_whose_24 rfl (lv_at hl 0 rfl) ?_
    refine M_mg0 hC hinX6 hK hw (List.mem_of_getElem? (i := 2) rfl) dX6_whose_25 ?_
    refine lv_iconst (v := (1 : Int32)) hx hb dX6_whose_28 (by decide) ?_
    obtain ⟨hi, h⟩ := h
    refine M_ml0 hC hK hw hi dX6_whose_29 ?_
    refine lv_icmp_ge (tgt := 69) hx hb dX6_whose_30 (by decide) (fun c33 => ?_) (fun c33 => ?_)
    · replace h := h.1 c33
      refine lv_iload_n hx hb dX6_whose_69 rfl (lv_at hl 2 rfl) ?_
      refine lv_if_ge (tgt := 82) hx hb dX6_whose_70 (by decide) (fun c17 => ?_) (fun c17 => ?_)
      · replace h := h.1 c17
        refine lv_iload_n hx hb dX6_whose_82 rfl (lv_at hl 2 rfl) ?_
        rw [hQ]
        exact mreti (w := (wM g q)) (u := (S6, J)) hC hr hlocks hK hw ⟨rfl, h⟩ dX6_whose_83
      · replace h := h.2 c17
        refine lv_aload_n hx hb dX6_whose_73 rfl (lv_at hl 0 rfl) ?_
        refine lv_ldc (v := (-1000000004 : Int32)) hx hb hown (hts (.constant RX6 188 (-1000000004)) (List.mem_of_getElem? (i := 3) rfl)) dX6_whose_74 ?_
        refine mcalli (w1 := (wM g q)) (va_runV (As := [.int (-1000000004 : Int32)]) (rest := []) hC (kX6_finds l g  q H.size S6 J (-1000000004 : Int32) _ h) (cwV 1 hts gX6_whose_X6_finds rfl rfl rfl (by decide +kernel) ⟨Nat.le_of_ble_eq_true rfl, Nat.le_of_ble_eq_true rfl⟩) (mpreV E0_ok hK hE hA hw (Sub1.refl _) 0 rfl rfl) rfl rfl hl.1 rfl (lv_room (Nat.le_of_ble_eq_true rfl)) dX6_whose_76 ⟨Nat.zero_le _, Nat.zero_le _⟩) hA hw (Sub1.refl _) (fun _ => Sub.whole rfl) (fun r13 u14 H locs h hw => ?_)
        obtain ⟨S15, J16⟩ := u14
        obtain ⟨hu, h⟩ := h
        replace hu : J = J16 := hu.symm
        subst hu
        refine lv_goto (tgt := 83) hx hb dX6_whose_79 (by decide) ?_
        rw [hQ]
        exact mreti (w := (wM g q)) (u := (S15, J)) hC hr hlocks hK hw ⟨rfl, h⟩ dX6_whose_83
    · replace h := h.2 c33
      refine lv_aload_n hx hb dX6_whose_33 rfl (lv_at hl 0 rfl) ?_
      refine lv_iload hx hb dX6_whose_34 (lv_at hl 4 rfl) ?_
      refine lv_iload_n hx hb dX6_whose_36 rfl (lv_at hl 1 rfl) ?_
      refine mcalli (w1 := (wM g q)) (va_runV (As := [.int x5, .int a1]) (rest := []) hC (kX6_costOf l g  q H.size S6 J x5 a1 _ h) (cwV 2 hts gX6_whose_X6_costOf rfl rfl rfl (by decide +kernel) ⟨Nat.le_of_ble_eq_true rfl, Nat.le_of_ble_eq_true rfl⟩) (mpreV E0_ok hK hE hA hw (Sub1.refl _) 0 rfl rfl) rfl rfl hl.1 rfl (lv_room (Nat.le_of_ble_eq_true rfl)) dX6_whose_37 ⟨Nat.zero_le _, Nat.zero_le _⟩) hA hw (Sub1.refl _) (fun _ => Sub.whole rfl) (fun r18 u19 H locs h hw => ?_)
      obtain ⟨S20, J21⟩ := u19
      obtain ⟨hu, h⟩ := h
      replace hu : J = J21 := hu.symm
      subst hu
      refine lv_istore (lv' := [(5, .int r18), (0, .ref (q 0)), (1, .int a1), (2, .int x3), (3, .int x4), (4, .int x5)]) hx hb dX6_whose_40 hl (by decide) rfl (fun ls hl => ?_)
      refine lv_iload hx hb dX6_whose_42 (lv_at hl 0 rfl) ?_
      refine lv_if_lt (tgt := 63) hx hb dX6_whose_44 (by decide) (fun c32 => ?_) (fun c32 => ?_)
      · replace h := h.1 c32
        obtain ⟨x22, ex22⟩ : ∃ y : Int32, y = x5 + (1 : Int32) := ⟨_, rfl⟩
        refine lv_iinc (v := x22) (lv' := [(4, .int x22), (5, .int r18), (0, .ref (q 0)), (1, .int a1), (2, .int x3), (3, .int x4)]) hx hb dX6_whose_63 hl (k := 5) rfl (by rw [ex22]; rfl) (by decide) rfl (fun ls hl => ?_)
        replace h := h x22 ex22
        refine lv_goto (tgt := 22) hx hb dX6_whose_66 (by decide) ?_
        exact h _ _ _ hw (lv_sub hl [2, 3, 4, 5, 0] rfl)
      · replace h := h.2 c32
        refine lv_iload_n hx hb dX6_whose_47 rfl (lv_at hl 3 rfl) ?_
        refine lv_if_lt (tgt := 57) hx hb dX6_whose_48 (by decide) (fun c31 => ?_) (fun c31 => ?_)
        · replace h := h.1 c31
          refine lv_iload hx hb dX6_whose_57 (lv_at hl 5 rfl) ?_
          refine lv_istore_n (lv' := [(2, .int x5), (5, .int r18), (0, .ref (q 0)), (1, .int a1), (3, .int x4), (4, .int x5)]) hx hb dX6_whose_59 rfl hl (by decide) rfl (fun ls hl => ?_)
          refine lv_iload hx hb dX6_whose_60 (lv_at hl 1 rfl) ?_
          refine lv_istore_n (lv' := [(3, .int r18), (2, .int x5), (5, .int r18), (0, .ref (q 0)), (1, .int a1), (4, .int x5)]) hx hb dX6_whose_62 rfl hl (by decide) rfl (fun ls hl => ?_)
          obtain ⟨x24, ex24⟩ : ∃ y : Int32, y = x5 + (1 : Int32) := ⟨_, rfl⟩
          refine lv_iinc (v := x24) (lv' := [(4, .int x24), (3, .int r18), (2, .int x5), (5, .int r18), (0, .ref (q 0)), (1, .int a1)]) hx hb dX6_whose_63 hl (k := 5) rfl (by rw [ex24]; rfl) (by decide) rfl (fun ls hl => ?_)
          replace h := h x24 ex24
          refine lv_goto (tgt := 22) hx hb dX6_whose_66 (by decide) ?_
          exact h _ _ _ hw (lv_sub hl [4, 5, 2, 1, 0] rfl)
        · replace h := h.2 c31
          refine lv_iload hx hb dX6_whose_51 (lv_at hl 0 rfl) ?_
          refine lv_iload_n hx hb dX6_whose_53 rfl (lv_at hl 4 rfl) ?_
          refine lv_icmp_ge (tgt := 63) hx hb dX6_whose_54 (by decide) (fun c30 => ?_) (fun c30 => ?_)
          · replace h := h.1 c30
            obtain ⟨x26, ex26⟩ : ∃ y : Int32, y = x5 + (1 : Int32) := ⟨_, rfl⟩
            refine lv_iinc (v := x26) (lv' := [(4, .int x26), (5, .int r18), (0, .ref (q 0)), (1, .int a1), (2, .int x3), (3, .int x4)]) hx hb dX6_whose_63 hl (k := 5) rfl (by rw [ex26]; rfl) (by decide) rfl (fun ls hl => ?_)
            replace h := h x26 ex26
            refine lv_goto (tgt := 22) hx hb dX6_whose_66 (by decide) ?_
            exact h _ _ _ hw (lv_sub hl [2, 3, 4, 5, 0] rfl)
          · replace h := h.2 c30
            refine lv_iload hx hb dX6_whose_57 (lv_at hl 5 rfl) ?_
            refine lv_istore_n (lv' := [(2, .int x5), (5, .int r18), (0, .ref (q 0)), (1, .int a1), (3, .int x4), (4, .int x5)]) hx hb dX6_whose_59 rfl hl (by decide) rfl (fun ls hl => ?_)
            refine lv_iload hx hb dX6_whose_60 (lv_at hl 1 rfl) ?_
            refine lv_istore_n (lv' := [(3, .int r18), (2, .int x5), (5, .int r18), (0, .ref (q 0)), (1, .int a1), (4, .int x5)]) hx hb dX6_whose_62 rfl hl (by decide) rfl (fun ls hl => ?_)
            obtain ⟨x28, ex28⟩ : ∃ y : Int32, y = x5 + (1 : Int32) := ⟨_, rfl⟩
            refine lv_iinc (v := x28) (lv' := [(4, .int x28), (3, .int r18), (2, .int x5), (5, .int r18), (0, .ref (q 0)), (1, .int a1)]) hx hb dX6_whose_63 hl (k := 5) rfl (by rw [ex28]; rfl) (by decide) rfl (fun ls hl => ?_)
            replace h := h x28 ex28
            refine lv_goto (tgt := 22) hx hb dX6_whose_66 (by decide) ?_
            exact h _ _ _ hw (lv_sub hl [4, 5, 2, 1, 0] rfl)
  · replace h := h.1 c38
    refine lv_aload_n hx hb dX6_whose_8 rfl (lv_at hl 0 rfl) ?_
    refine lv_ldc (v := (-1000000001 : Int32)) hx hb hown (hts (.constant RX6 68 (-1000000001)) (List.mem_of_getElem? (i := 1) rfl)) dX6_whose_9 ?_
    refine mcalli (w1 := (wM g q)) (va_runV (As := [.int (-1000000001 : Int32)]) (rest := []) hC (kX6_finds l g  q H.size S J (-1000000001 : Int32) _ h) (cwV 1 hts gX6_whose_X6_finds rfl rfl rfl (by decide +kernel) ⟨Nat.le_of_ble_eq_true rfl, Nat.le_of_ble_eq_true rfl⟩) (mpreV E0_ok hK hE hA hw (Sub1.refl _) 0 rfl rfl) rfl rfl hl.1 rfl (lv_room (Nat.le_of_ble_eq_true rfl)) dX6_whose_11 ⟨Nat.zero_le _, Nat.zero_le _⟩) hA hw (Sub1.refl _) (fun _ => Sub.whole rfl) (fun r34 u35 H locs h hw => ?_)
    obtain ⟨S36, J37⟩ := u35
    obtain ⟨hu, h⟩ := h
    replace hu : J = J37 := hu.symm
    subst hu
    rw [hQ]
    exact mreti (w := (wM g q)) (u := (S36, J)) hC hr hlocks hK hw ⟨rfl, h⟩ dX6_whose_14
def wX6_findCosts (S : Bun) (J : Lon) (a1 : Int32) (post : Bun → Prop) : Prop :=
  wloop (σ := Int32 × Bun) (fun K3 z => match z with | (x1, S2) => vp_in (0 : Int32) 56 ∧ (((S2 1 (0 : Int32).toNatClampNeg) ≤ x1 → post S2) ∧ (¬ ((S2 1 (0 : Int32).toNatClampNeg) ≤ x1) → wX6_costOf S2 J a1 x1 (fun r9 S11 => vp_in x1 6 ∧ ∀ S13 : Bun, S13 = up S11 15 x1.toNatClampNeg r9 → ∀ x14 : Int32, x14 = x1 + (1 : Int32) → K3 (x14, S13))))) ((0 : Int32), S)
set_option maxRecDepth 100000 in
set_option maxHeartbeats 4000000 in
theorem kX6_findCosts (l : Launch) (g : Gl)  (q : Nat → Nat) (sz : Nat) (S : Bun) (J : Lon) (a1 : Int32) (post : Bun → Prop) (h : wX6_findCosts S J a1 post) : Met l yX6_findCosts wsX6_findCosts (rmm 6 150) (wPc g E0 ((wM g q) (S, J)) sz [.ref (q 0), .int a1]) (va_Qv (fun (u : Bun × Lon) => u.2 = J ∧ post u.1) (wB g (wM g q) (va_A ((wM g q) (S, J)) sz)) (va_A ((wM g q) (S, J)) sz)) 0 0 (va_A ((wM g q) (S, J)) sz) := by
  refine mstart (Qf := fun A => va_Qv (fun (u : Bun × Lon) => u.2 = J ∧ post u.1) (wB g (wM g q) A) A) (by decide) rfl (Nat.le_of_ble_eq_true rfl) ?_
  intro p e s m args below meth c A Q H locs ls hC hr hlocks hname hQ hA hK hE hw hl
  have hC : CallFix p m c cX6_findCosts 3 s args wsX6_findCosts RX6 := hC
  obtain ⟨hx, hb, -, hown, hts⟩ := id hC
  have hl : lv_has ls 3 [(0, .ref (q 0)), (1, .int a1)] := hl
  rw [wX6_findCosts] at h
  have hinX6 : ∀ w ∈ wsX60, w ∈ wsX6_findCosts := fun w hw9 => List.mem_cons_of_mem _ (List.mem_append_right _ hw9)
  refine lv_iconst (v := (0 : Int32)) hx hb dX6_findCosts_0 (by decide) ?_
  refine lv_istore_n (lv' := [(2, .int (0 : Int32)), (0, .ref (q 0)), (1, .int a1)]) hx hb dX6_findCosts_1 rfl hl (by decide) rfl (fun ls hl => ?_)
  refine h (fun z => match z with | (x1, S2) => ∀ (H : Heap) (locs : List Loc) (ls : Array Slot), Wd g.1 A s.heap ((wM g q) (S2, J)) H locs → lv_has ls 3 [(0, .ref (q 0)), (1, .int a1), (2, .int x1)] → W p l e (rmm 6 150) s m args below meth c H locs 0 0 Q (F0 m 2 ls [])) ?_ _ _ _ hw (lv_sub hl [1, 2, 0] rfl)
  clear h hw hl
  rintro ⟨x1, S2⟩ h H locs ls hw hl
  refine lv_iload_n hx hb dX6_findCosts_2 rfl (lv_at hl 2 rfl) ?_
  refine lv_aload_n hx hb dX6_findCosts_3 rfl (lv_at hl 0 rfl) ?_
  refine M_mg0 hC hinX6 hK hw (List.mem_of_getElem? (i := 1) rfl) dX6_findCosts_4 ?_
  refine lv_iconst (v := (0 : Int32)) hx hb dX6_findCosts_7 (by decide) ?_
  obtain ⟨hi, h⟩ := h
  refine M_ml0 hC hK hw hi dX6_findCosts_8 ?_
  refine lv_icmp_ge (tgt := 30) hx hb dX6_findCosts_9 (by decide) (fun c16 => ?_) (fun c16 => ?_)
  · replace h := h.1 c16
    rw [hQ]
    exact mretv (w := (wM g q)) (u := (S2, J)) hC hr hlocks hK hw ⟨rfl, h⟩ dX6_findCosts_30
  · replace h := h.2 c16
    refine lv_aload_n hx hb dX6_findCosts_12 rfl (lv_at hl 0 rfl) ?_
    refine M_mg14 hC hinX6 hK hw (List.mem_of_getElem? (i := 2) rfl) dX6_findCosts_13 ?_
    refine lv_iload_n hx hb dX6_findCosts_16 rfl (lv_at hl 2 rfl) ?_
    refine lv_aload_n hx hb dX6_findCosts_17 rfl (lv_at hl 0 rfl) ?_
    refine lv_iload_n hx hb dX6_findCosts_18 rfl (lv_at hl 1 rfl) ?_
    refine lv_iload_n hx hb dX6_findCosts_19 rfl (lv_at hl 2 rfl) ?_
    refine mcalli (w1 := (wM g q)) (va_runV (As := [.int a1, .int x1]) (rest := [.int x1, .ref (q 15)]) hC (kX6_costOf l g  q H.size S2 J a1 x1 _ h) (cwV 2 hts gX6_findCosts_X6_costOf rfl rfl rfl (by decide +kernel) ⟨Nat.le_of_ble_eq_true rfl, Nat.le_of_ble_eq_true rfl⟩) (mpreV E0_ok hK hE hA hw (Sub1.refl _) 0 rfl rfl) rfl rfl hl.1 rfl (lv_room (Nat.le_of_ble_eq_true rfl)) dX6_findCosts_20 ⟨Nat.zero_le _, Nat.zero_le _⟩) hA hw (Sub1.refl _) (fun _ => Sub.whole rfl) (fun r9 u10 H locs h hw => ?_)
    obtain ⟨S11, J12⟩ := u10
    obtain ⟨hu, h⟩ := h
    replace hu : J = J12 := hu.symm
    subst hu
    obtain ⟨hi, h⟩ := h
    refine M_ms14 hC hK hw hi dX6_findCosts_23 (fun S13 H locs eS13 hw => ?_)
    replace h := h S13 eS13
    obtain ⟨x14, ex14⟩ : ∃ y : Int32, y = x1 + (1 : Int32) := ⟨_, rfl⟩
    refine lv_iinc (v := x14) (lv' := [(2, .int x14), (0, .ref (q 0)), (1, .int a1)]) hx hb dX6_findCosts_24 hl (k := 2) rfl (by rw [ex14]; rfl) (by decide) rfl (fun ls hl => ?_)
    replace h := h x14 ex14
    refine lv_goto (tgt := 2) hx hb dX6_findCosts_27 (by decide) ?_
    exact h _ _ _ hw (lv_sub hl [1, 2, 0] rfl)
def wX6_looks (S : Bun) (J : Lon)  (post : Bun → Prop) : Prop :=
  vp_in (0 : Int32) 56 ∧ ∀ x1 : Int32, x1 = S 1 (0 : Int32).toNatClampNeg → wloop (σ := Int32 × Int32 × Int32 × Bun) (fun K6 z => match z with | (x2, x3, x4, S5) => ((x1 ≤ x4 → vp_in (x1 - (1 : Int32)) 6 ∧ vp_in (S5 16 (x1 - (1 : Int32)).toNatClampNeg) 6 ∧ ∀ x12 : Int32, x12 = S5 17 (S5 16 (x1 - (1 : Int32)).toNatClampNeg).toNatClampNeg → ∀ S13 : Bun, S13 = up S5 0 19 ((S5 0 19) + (1 : Int32)) → wjoin (σ := Int32) (fun y14 => ∀ S18 : Bun, S18 = up S13 0 22 y14 → wjoin (σ := Unit) (fun _ => ∀ S22 : Bun, S22 = up S18 0 20 x12 → ∀ S23 : Bun, S23 = up S22 0 21 x3 → wloop (σ := Int32 × Bun) (fun K26 z => match z with | (x24, S25) => ((x1 ≤ x24 → post S25) ∧ (¬ (x1 ≤ x24) → vp_in x24 6 ∧ vp_in x24 6 ∧ ∀ S32 : Bun, S32 = up S25 18 x24.toNatClampNeg (S25 16 x24.toNatClampNeg) → vp_in x24 6 ∧ vp_in x24 6 ∧ ∀ S33 : Bun, S33 = up S32 19 x24.toNatClampNeg (S32 17 x24.toNatClampNeg) → ∀ x34 : Int32, x34 = x24 + (1 : Int32) → K26 (x34, S33)))) ((0 : Int32), S23)) (fun J19 => (((S18 0 20) < 0 → J19 ()) ∧ (¬ ((S18 0 20) < 0) → (((S18 0 20) ≤ x12 → post S18) ∧ (¬ ((S18 0 20) ≤ x12) → J19 ())))))) (fun J15 => ((x3 ≤ (S13 0 22) → J15 (S13 0 22)) ∧ (¬ (x3 ≤ (S13 0 22)) → J15 x3)))) ∧ (¬ (x1 ≤ x4) → vp_in x4 6 ∧ ∀ x40 : Int32, x40 = S5 16 x4.toNatClampNeg → wX6_its S5 J x40 (4 : Int32) (fun r41 => wjoin (σ := Int32) (fun y43 => vp_in x40 6 ∧ ∀ x47 : Int32, x47 = y43 + (S5 15 x40.toNatClampNeg) → vp_in x40 6 ∧ ∀ S48 : Bun, S48 = up S5 17 x40.toNatClampNeg ((x47 - (1 : Int32)) / (8 : Int32)) → wX6_its S48 J x40 (5 : Int32) (fun r49 => vp_in x40 6 ∧ ∀ x51 : Int32, x51 = r49 - ((3 : Int32) * (S48 17 x40.toNatClampNeg)) → wjoin (σ := Int32) (fun y52 => ∀ x56 : Int32, x56 = x3 + y52 → ∀ x57 : Int32, x57 = x4 + (1 : Int32) → K6 (x47, x56, x57, S48)) (fun J53 => ((0 ≤ x51 → J53 x51) ∧ (¬ (0 ≤ x51) → J53 (0 : Int32)))))) (fun J44 => ((((8 : Int32) * r41) ≤ x2 → J44 x2) ∧ (¬ (((8 : Int32) * r41) ≤ x2) → wX6_its S5 J x40 (4 : Int32) (fun r60 => J44 ((8 : Int32) * r60))))))))) ((0 : Int32), (0 : Int32), (0 : Int32), S)
set_option maxRecDepth 100000 in
set_option maxHeartbeats 4000000 in
theorem kX6_looks (l : Launch) (g : Gl)  (q : Nat → Nat) (sz : Nat) (S : Bun) (J : Lon)  (post : Bun → Prop) (h : wX6_looks S J  post) : Met l yX6_looks wsX6_looks (rmm 1 22) (wPc g E0 ((wM g q) (S, J)) sz [.ref (q 0)]) (va_Qv (fun (u : Bun × Lon) => u.2 = J ∧ post u.1) (wB g (wM g q) (va_A ((wM g q) (S, J)) sz)) (va_A ((wM g q) (S, J)) sz)) 0 0 (va_A ((wM g q) (S, J)) sz) := by
  refine mstart (Qf := fun A => va_Qv (fun (u : Bun × Lon) => u.2 = J ∧ post u.1) (wB g (wM g q) A) A) (by decide) rfl (Nat.le_of_ble_eq_true rfl) ?_
  intro p e s m args below meth c A Q H locs ls hC hr hlocks hname hQ hA hK hE hw hl
  have hC : CallFix p m c cX6_looks 7 s args wsX6_looks RX6 := hC
  obtain ⟨hx, hb, -, hown, hts⟩ := id hC
  have hl : lv_has ls 7 [(0, .ref (q 0))] := hl
  rw [wX6_looks] at h
  have hinX6 : ∀ w ∈ wsX60, w ∈ wsX6_looks := fun w hw9 => List.mem_cons_of_mem _ (List.mem_append_right _ hw9)
  refine lv_iconst (v := (0 : Int32)) hx hb dX6_looks_0 (by decide) ?_
  refine lv_istore_n (lv' := [(1, .int (0 : Int32)), (0, .ref (q 0))]) hx hb dX6_looks_1 rfl hl (by decide) rfl (fun ls hl => ?_)
  refine lv_iconst (v := (0 : Int32)) hx hb dX6_looks_2 (by decide) ?_
  refine lv_istore_n (lv' := [(2, .int (0 : Int32)), (1, .int (0 : Int32)), (0, .ref (q 0))]) hx hb dX6_looks_3 rfl hl (by decide) rfl (fun ls hl => ?_)
  refine lv_aload_n hx hb dX6_looks_4 rfl (lv_at hl 2 rfl) ?_
  refine M_mg0 hC hinX6 hK hw (List.mem_of_getElem? (i := 1) rfl) dX6_looks_5 ?_
  refine lv_iconst (v := (0 : Int32)) hx hb dX6_looks_8 (by decide) ?_
  obtain ⟨hi, h⟩ := h
  refine M_ml0 hC hK hw hi dX6_looks_9 ?_
  refine lv_topi (fun x1 ex1 => ?_)
  replace h := h x1 ex1
  refine lv_istore_n (lv' := [(3, .int x1), (2, .int (0 : Int32)), (1, .int (0 : Int32)), (0, .ref (q 0))]) hx hb dX6_looks_10 rfl hl (by decide) rfl (fun ls hl => ?_)
  refine lv_iconst (v := (0 : Int32)) hx hb dX6_looks_11 (by decide) ?_
  refine lv_istore (lv' := [(4, .int (0 : Int32)), (3, .int x1), (2, .int (0 : Int32)), (1, .int (0 : Int32)), (0, .ref (q 0))]) hx hb dX6_looks_12 hl (by decide) rfl (fun ls hl => ?_)
  refine h (fun z => match z with | (x2, x3, x4, S5) => ∀ (H : Heap) (locs : List Loc) (ls : Array Slot), Wd g.1 A s.heap ((wM g q) (S5, J)) H locs → lv_has ls 7 [(0, .ref (q 0)), (1, .int x2), (2, .int x3), (3, .int x1), (4, .int x4)] → W p l e (rmm 1 22) s m args below meth c H locs 0 0 Q (F0 m 14 ls [])) ?_ _ _ _ hw (lv_sub hl [4, 3, 2, 1, 0] rfl)
  clear h hw hl
  rintro ⟨x2, x3, x4, S5⟩ h H locs ls hw hl
  refine lv_iload hx hb dX6_looks_14 (lv_at hl 4 rfl) ?_
  refine lv_iload_n hx hb dX6_looks_16 rfl (lv_at hl 3 rfl) ?_
  refine lv_icmp_ge (tgt := 120) hx hb dX6_looks_17 (by decide) (fun c63 => ?_) (fun c63 => ?_)
  · replace h := h.1 c63
    refine lv_aload_n hx hb dX6_looks_120 rfl (lv_at hl 0 rfl) ?_
    refine M_mg16 hC hinX6 hK hw (List.mem_of_getElem? (i := 4) rfl) dX6_looks_121 ?_
    refine lv_aload_n hx hb dX6_looks_124 rfl (lv_at hl 0 rfl) ?_
    refine M_mg15 hC hinX6 hK hw (List.mem_of_getElem? (i := 2) rfl) dX6_looks_125 ?_
    refine lv_iload_n hx hb dX6_looks_128 rfl (lv_at hl 3 rfl) ?_
    refine lv_iconst (v := (1 : Int32)) hx hb dX6_looks_129 (by decide) ?_
    refine lv_isub hx hb dX6_looks_130 ?_
    obtain ⟨hi, h⟩ := h
    refine M_ml15 hC hK hw hi dX6_looks_131 ?_
    obtain ⟨hi, h⟩ := h
    refine M_ml16 hC hK hw hi dX6_looks_132 ?_
    refine lv_topi (fun x12 ex12 => ?_)
    replace h := h x12 ex12
    refine lv_istore (lv' := [(4, .int x12), (0, .ref (q 0)), (1, .int x2), (2, .int x3), (3, .int x1)]) hx hb dX6_looks_133 hl (by decide) rfl (fun ls hl => ?_)
    refine lv_aload_n hx hb dX6_looks_135 rfl (lv_at hl 1 rfl) ?_
    refine lv_dup hx hb dX6_looks_136 rfl ?_
    refine M_mg19 hC hinX6 hK hw (List.mem_of_getElem? (i := 5) rfl) dX6_looks_137 ?_
    refine lv_iconst (v := (1 : Int32)) hx hb dX6_looks_140 (by decide) ?_
    refine lv_iadd hx hb dX6_looks_141 ?_
    refine M_mp19 hC hinX6 hK hw (List.mem_of_getElem? (i := 5) rfl) dX6_looks_142 (fun S13 H locs eS13 hw => ?_)
    replace h := h S13 eS13
    refine lv_aload_n hx hb dX6_looks_145 rfl (lv_at hl 1 rfl) ?_
    refine lv_iload_n hx hb dX6_looks_146 rfl (lv_at hl 3 rfl) ?_
    refine lv_aload_n hx hb dX6_looks_147 rfl (lv_at hl 1 rfl) ?_
    refine M_mg22 hC hinX6 hK hw (List.mem_of_getElem? (i := 6) rfl) dX6_looks_148 ?_
    obtain ⟨J15, hJ16, h⟩ := h
    have join17 : ∀ (y14 : Int32) (H : Heap) (locs : List Loc) (ls : Array Slot), J15 y14 → Wd g.1 A s.heap ((wM g q) (S13, J)) H locs → lv_has ls 7 [(0, .ref (q 0)), (2, .int x3), (3, .int x1), (4, .int x12)] → W p l e (rmm 1 22) s m args below meth c H locs 0 0 Q (F0 m 162 ls [.int y14, .ref (q 0)]) := by
      intro y14 H locs ls h hw hl
      replace h := hJ16 y14 h
      refine M_mp22 hC hinX6 hK hw (List.mem_of_getElem? (i := 6) rfl) dX6_looks_162 (fun S18 H locs eS18 hw => ?_)
      replace h := h S18 eS18
      refine lv_aload_n hx hb dX6_looks_165 rfl (lv_at hl 0 rfl) ?_
      refine M_mg20 hC hinX6 hK hw (List.mem_of_getElem? (i := 7) rfl) dX6_looks_166 ?_
      obtain ⟨J19, hJ20, h⟩ := h
      have join21 : ∀  (H : Heap) (locs : List Loc) (ls : Array Slot), J19 () → Wd g.1 A s.heap ((wM g q) (S18, J)) H locs → lv_has ls 7 [(0, .ref (q 0)), (2, .int x3), (3, .int x1), (4, .int x12)] → W p l e (rmm 1 22) s m args below meth c H locs 0 0 Q (F0 m 181 ls []) := by
        intro  H locs ls h hw hl
        replace h := hJ20 () h
        refine lv_aload_n hx hb dX6_looks_181 rfl (lv_at hl 0 rfl) ?_
        refine lv_iload hx hb dX6_looks_182 (lv_at hl 3 rfl) ?_
        refine M_mp20 hC hinX6 hK hw (List.mem_of_getElem? (i := 7) rfl) dX6_looks_184 (fun S22 H locs eS22 hw => ?_)
        replace h := h S22 eS22
        refine lv_aload_n hx hb dX6_looks_187 rfl (lv_at hl 0 rfl) ?_
        refine lv_iload_n hx hb dX6_looks_188 rfl (lv_at hl 1 rfl) ?_
        refine M_mp21 hC hinX6 hK hw (List.mem_of_getElem? (i := 8) rfl) dX6_looks_189 (fun S23 H locs eS23 hw => ?_)
        replace h := h S23 eS23
        refine lv_iconst (v := (0 : Int32)) hx hb dX6_looks_192 (by decide) ?_
        refine lv_istore (lv' := [(5, .int (0 : Int32)), (0, .ref (q 0)), (2, .int x3), (3, .int x1), (4, .int x12)]) hx hb dX6_looks_193 hl (by decide) rfl (fun ls hl => ?_)
        refine h (fun z => match z with | (x24, S25) => ∀ (H : Heap) (locs : List Loc) (ls : Array Slot), Wd g.1 A s.heap ((wM g q) (S25, J)) H locs → lv_has ls 7 [(0, .ref (q 0)), (3, .int x1), (5, .int x24)] → W p l e (rmm 1 22) s m args below meth c H locs 0 0 Q (F0 m 195 ls [])) ?_ _ _ _ hw (lv_sub hl [1, 3, 0] rfl)
        clear h hw hl
        rintro ⟨x24, S25⟩ h H locs ls hw hl
        refine lv_iload hx hb dX6_looks_195 (lv_at hl 2 rfl) ?_
        refine lv_iload_n hx hb dX6_looks_197 rfl (lv_at hl 1 rfl) ?_
        refine lv_icmp_ge (tgt := 235) hx hb dX6_looks_198 (by decide) (fun c36 => ?_) (fun c36 => ?_)
        · replace h := h.1 c36
          rw [hQ]
          exact mretv (w := (wM g q)) (u := (S25, J)) hC hr hlocks hK hw ⟨rfl, h⟩ dX6_looks_235
        · replace h := h.2 c36
          refine lv_aload_n hx hb dX6_looks_201 rfl (lv_at hl 0 rfl) ?_
          refine M_mg17 hC hinX6 hK hw (List.mem_of_getElem? (i := 9) rfl) dX6_looks_202 ?_
          refine lv_iload hx hb dX6_looks_205 (lv_at hl 2 rfl) ?_
          refine lv_aload_n hx hb dX6_looks_207 rfl (lv_at hl 0 rfl) ?_
          refine M_mg15 hC hinX6 hK hw (List.mem_of_getElem? (i := 2) rfl) dX6_looks_208 ?_
          refine lv_iload hx hb dX6_looks_211 (lv_at hl 2 rfl) ?_
          obtain ⟨hi, h⟩ := h
          refine M_ml15 hC hK hw hi dX6_looks_213 ?_
          obtain ⟨hi, h⟩ := h
          refine M_ms17 hC hK hw hi dX6_looks_214 (fun S32 H locs eS32 hw => ?_)
          replace h := h S32 eS32
          refine lv_aload_n hx hb dX6_looks_215 rfl (lv_at hl 0 rfl) ?_
          refine M_mg18 hC hinX6 hK hw (List.mem_of_getElem? (i := 10) rfl) dX6_looks_216 ?_
          refine lv_iload hx hb dX6_looks_219 (lv_at hl 2 rfl) ?_
          refine lv_aload_n hx hb dX6_looks_221 rfl (lv_at hl 0 rfl) ?_
          refine M_mg16 hC hinX6 hK hw (List.mem_of_getElem? (i := 4) rfl) dX6_looks_222 ?_
          refine lv_iload hx hb dX6_looks_225 (lv_at hl 2 rfl) ?_
          obtain ⟨hi, h⟩ := h
          refine M_ml16 hC hK hw hi dX6_looks_227 ?_
          obtain ⟨hi, h⟩ := h
          refine M_ms18 hC hK hw hi dX6_looks_228 (fun S33 H locs eS33 hw => ?_)
          replace h := h S33 eS33
          obtain ⟨x34, ex34⟩ : ∃ y : Int32, y = x24 + (1 : Int32) := ⟨_, rfl⟩
          refine lv_iinc (v := x34) (lv' := [(5, .int x34), (0, .ref (q 0)), (3, .int x1)]) hx hb dX6_looks_229 hl (k := 2) rfl (by rw [ex34]; rfl) (by decide) rfl (fun ls hl => ?_)
          replace h := h x34 ex34
          refine lv_goto (tgt := 195) hx hb dX6_looks_232 (by decide) ?_
          exact h _ _ _ hw (lv_sub hl [1, 2, 0] rfl)
      refine lv_if_lt (tgt := 181) hx hb dX6_looks_169 (by decide) (fun c38 => ?_) (fun c38 => ?_)
      · replace h := h.1 c38
        exact join21  _ _ _ h hw (lv_sub hl [0, 1, 2, 3] rfl)
      · replace h := h.2 c38
        refine lv_iload hx hb dX6_looks_172 (lv_at hl 3 rfl) ?_
        refine lv_aload_n hx hb dX6_looks_174 rfl (lv_at hl 0 rfl) ?_
        refine M_mg20 hC hinX6 hK hw (List.mem_of_getElem? (i := 7) rfl) dX6_looks_175 ?_
        refine lv_icmp_ge (tgt := 235) hx hb dX6_looks_178 (by decide) (fun c37 => ?_) (fun c37 => ?_)
        · replace h := h.1 c37
          rw [hQ]
          exact mretv (w := (wM g q)) (u := (S18, J)) hC hr hlocks hK hw ⟨rfl, h⟩ dX6_looks_235
        · replace h := h.2 c37
          exact join21  _ _ _ h hw (lv_sub hl [0, 1, 2, 3] rfl)
    refine lv_icmp_le (tgt := 158) hx hb dX6_looks_151 (by decide) (fun c39 => ?_) (fun c39 => ?_)
    · replace h := h.1 c39
      refine lv_aload_n hx hb dX6_looks_158 rfl (lv_at hl 1 rfl) ?_
      refine M_mg22 hC hinX6 hK hw (List.mem_of_getElem? (i := 6) rfl) dX6_looks_159 ?_
      exact join17 (S13 0 22) _ _ _ h hw (lv_sub hl [1, 3, 4, 0] rfl)
    · replace h := h.2 c39
      refine lv_iload_n hx hb dX6_looks_154 rfl (lv_at hl 3 rfl) ?_
      refine lv_goto (tgt := 162) hx hb dX6_looks_155 (by decide) ?_
      exact join17 x3 _ _ _ h hw (lv_sub hl [1, 3, 4, 0] rfl)
  · replace h := h.2 c63
    refine lv_aload_n hx hb dX6_looks_20 rfl (lv_at hl 0 rfl) ?_
    refine M_mg15 hC hinX6 hK hw (List.mem_of_getElem? (i := 2) rfl) dX6_looks_21 ?_
    refine lv_iload hx hb dX6_looks_24 (lv_at hl 4 rfl) ?_
    obtain ⟨hi, h⟩ := h
    refine M_ml15 hC hK hw hi dX6_looks_26 ?_
    refine lv_topi (fun x40 ex40 => ?_)
    replace h := h x40 ex40
    refine lv_istore (lv' := [(5, .int x40), (0, .ref (q 0)), (1, .int x2), (2, .int x3), (3, .int x1), (4, .int x4)]) hx hb dX6_looks_27 hl (by decide) rfl (fun ls hl => ?_)
    refine lv_iload_n hx hb dX6_looks_29 rfl (lv_at hl 2 rfl) ?_
    refine lv_bipush (v := (8 : Int32)) hx hb dX6_looks_30 (by decide) ?_
    refine lv_aload_n hx hb dX6_looks_32 rfl (lv_at hl 1 rfl) ?_
    refine lv_iload hx hb dX6_looks_33 (lv_at hl 0 rfl) ?_
    refine lv_iconst (v := (4 : Int32)) hx hb dX6_looks_35 (by decide) ?_
    refine mcalli (w1 := (wM g q)) (va_runV (As := [.int x40, .int (4 : Int32)]) (rest := [.int (8 : Int32), .int x2]) hC (kX6_its l g  q H.size S5 J x40 (4 : Int32) _ h) (cwV 2 hts gX6_looks_X6_its rfl rfl rfl (by decide +kernel) ⟨Nat.le_of_ble_eq_true rfl, Nat.le_of_ble_eq_true rfl⟩) (mpreV E0_ok hK hE hA hw (Sub1.refl _) 0 rfl rfl) rfl rfl hl.1 rfl (lv_room (Nat.le_of_ble_eq_true rfl)) dX6_looks_36 ⟨Nat.zero_le _, Nat.zero_le _⟩) hA hw (Sub1.refl _) (fun _ => Sub.whole rfl) (fun r41 u42 H locs h hw => ?_)
    obtain ⟨hu, h⟩ := h
    replace hu := hu.symm
    subst hu
    refine lv_imul hx hb dX6_looks_39 ?_
    obtain ⟨J44, hJ45, h⟩ := h
    have join46 : ∀ (y43 : Int32) (H : Heap) (locs : List Loc) (ls : Array Slot), J44 y43 → Wd g.1 A s.heap ((wM g q) (S5, J)) H locs → lv_has ls 7 [(0, .ref (q 0)), (2, .int x3), (3, .int x1), (4, .int x4), (5, .int x40)] → W p l e (rmm 1 22) s m args below meth c H locs 0 0 Q (F0 m 57 ls [.int y43]) := by
      intro y43 H locs ls h hw hl
      replace h := hJ45 y43 h
      refine lv_istore_n (lv' := [(1, .int y43), (0, .ref (q 0)), (2, .int x3), (3, .int x1), (4, .int x4), (5, .int x40)]) hx hb dX6_looks_57 rfl hl (by decide) rfl (fun ls hl => ?_)
      refine lv_iload_n hx hb dX6_looks_58 rfl (lv_at hl 0 rfl) ?_
      refine lv_aload_n hx hb dX6_looks_59 rfl (lv_at hl 1 rfl) ?_
      refine M_mg14 hC hinX6 hK hw (List.mem_of_getElem? (i := 3) rfl) dX6_looks_60 ?_
      refine lv_iload hx hb dX6_looks_63 (lv_at hl 5 rfl) ?_
      obtain ⟨hi, h⟩ := h
      refine M_ml14 hC hK hw hi dX6_looks_65 ?_
      refine lv_iadd hx hb dX6_looks_66 ?_
      refine lv_topi (fun x47 ex47 => ?_)
      replace h := h x47 ex47
      refine lv_istore_n (lv' := [(1, .int x47), (0, .ref (q 0)), (2, .int x3), (3, .int x1), (4, .int x4), (5, .int x40)]) hx hb dX6_looks_67 rfl hl (by decide) rfl (fun ls hl => ?_)
      refine lv_aload_n hx hb dX6_looks_68 rfl (lv_at hl 1 rfl) ?_
      refine M_mg16 hC hinX6 hK hw (List.mem_of_getElem? (i := 4) rfl) dX6_looks_69 ?_
      refine lv_iload hx hb dX6_looks_72 (lv_at hl 5 rfl) ?_
      refine lv_iload_n hx hb dX6_looks_74 rfl (lv_at hl 0 rfl) ?_
      refine lv_iconst (v := (1 : Int32)) hx hb dX6_looks_75 (by decide) ?_
      refine lv_isub hx hb dX6_looks_76 ?_
      refine lv_bipush (v := (8 : Int32)) hx hb dX6_looks_77 (by decide) ?_
      refine lv_idiv hx hb dX6_looks_79 (by decide) ?_
      obtain ⟨hi, h⟩ := h
      refine M_ms16 hC hK hw hi dX6_looks_80 (fun S48 H locs eS48 hw => ?_)
      replace h := h S48 eS48
      refine lv_aload_n hx hb dX6_looks_81 rfl (lv_at hl 1 rfl) ?_
      refine lv_iload hx hb dX6_looks_82 (lv_at hl 5 rfl) ?_
      refine lv_iconst (v := (5 : Int32)) hx hb dX6_looks_84 (by decide) ?_
      refine mcalli (w1 := (wM g q)) (va_runV (As := [.int x40, .int (5 : Int32)]) (rest := []) hC (kX6_its l g  q H.size S48 J x40 (5 : Int32) _ h) (cwV 2 hts gX6_looks_X6_its rfl rfl rfl (by decide +kernel) ⟨Nat.le_of_ble_eq_true rfl, Nat.le_of_ble_eq_true rfl⟩) (mpreV E0_ok hK hE hA hw (Sub1.refl _) 0 rfl rfl) rfl rfl hl.1 rfl (lv_room (Nat.le_of_ble_eq_true rfl)) dX6_looks_85 ⟨Nat.zero_le _, Nat.zero_le _⟩) hA hw (Sub1.refl _) (fun _ => Sub.whole rfl) (fun r49 u50 H locs h hw => ?_)
      obtain ⟨hu, h⟩ := h
      replace hu := hu.symm
      subst hu
      refine lv_iconst (v := (3 : Int32)) hx hb dX6_looks_88 (by decide) ?_
      refine lv_aload_n hx hb dX6_looks_89 rfl (lv_at hl 1 rfl) ?_
      refine M_mg16 hC hinX6 hK hw (List.mem_of_getElem? (i := 4) rfl) dX6_looks_90 ?_
      refine lv_iload hx hb dX6_looks_93 (lv_at hl 5 rfl) ?_
      obtain ⟨hi, h⟩ := h
      refine M_ml16 hC hK hw hi dX6_looks_95 ?_
      refine lv_imul hx hb dX6_looks_96 ?_
      refine lv_isub hx hb dX6_looks_97 ?_
      refine lv_topi (fun x51 ex51 => ?_)
      replace h := h x51 ex51
      refine lv_istore (lv' := [(6, .int x51), (1, .int x47), (0, .ref (q 0)), (2, .int x3), (3, .int x1), (4, .int x4), (5, .int x40)]) hx hb dX6_looks_98 hl (by decide) rfl (fun ls hl => ?_)
      refine lv_iload_n hx hb dX6_looks_100 rfl (lv_at hl 3 rfl) ?_
      refine lv_iload hx hb dX6_looks_101 (lv_at hl 0 rfl) ?_
      obtain ⟨J53, hJ54, h⟩ := h
      have join55 : ∀ (y52 : Int32) (H : Heap) (locs : List Loc) (ls : Array Slot), J53 y52 → Wd g.1 A s.heap ((wM g q) (S48, J)) H locs → lv_has ls 7 [(0, .ref (q 0)), (1, .int x47), (3, .int x1), (4, .int x4)] → W p l e (rmm 1 22) s m args below meth c H locs 0 0 Q (F0 m 112 ls [.int y52, .int x3]) := by
        intro y52 H locs ls h hw hl
        replace h := hJ54 y52 h
        refine lv_iadd hx hb dX6_looks_112 ?_
        refine lv_topi (fun x56 ex56 => ?_)
        replace h := h x56 ex56
        refine lv_istore_n (lv' := [(2, .int x56), (0, .ref (q 0)), (1, .int x47), (3, .int x1), (4, .int x4)]) hx hb dX6_looks_113 rfl hl (by decide) rfl (fun ls hl => ?_)
        obtain ⟨x57, ex57⟩ : ∃ y : Int32, y = x4 + (1 : Int32) := ⟨_, rfl⟩
        refine lv_iinc (v := x57) (lv' := [(4, .int x57), (2, .int x56), (0, .ref (q 0)), (1, .int x47), (3, .int x1)]) hx hb dX6_looks_114 hl (k := 4) rfl (by rw [ex57]; rfl) (by decide) rfl (fun ls hl => ?_)
        replace h := h x57 ex57
        refine lv_goto (tgt := 14) hx hb dX6_looks_117 (by decide) ?_
        exact h _ _ _ hw (lv_sub hl [2, 3, 1, 4, 0] rfl)
      refine lv_if_ge (tgt := 110) hx hb dX6_looks_103 (by decide) (fun c59 => ?_) (fun c59 => ?_)
      · replace h := h.1 c59
        refine lv_iload hx hb dX6_looks_110 (lv_at hl 0 rfl) ?_
        exact join55 x51 _ _ _ h hw (lv_sub hl [2, 1, 4, 5] rfl)
      · replace h := h.2 c59
        refine lv_iconst (v := (0 : Int32)) hx hb dX6_looks_106 (by decide) ?_
        refine lv_goto (tgt := 112) hx hb dX6_looks_107 (by decide) ?_
        exact join55 (0 : Int32) _ _ _ h hw (lv_sub hl [2, 1, 4, 5] rfl)
    refine lv_icmp_ge (tgt := 56) hx hb dX6_looks_40 (by decide) (fun c62 => ?_) (fun c62 => ?_)
    · replace h := h.1 c62
      refine lv_iload_n hx hb dX6_looks_56 rfl (lv_at hl 2 rfl) ?_
      exact join46 x2 _ _ _ h hw (lv_sub hl [1, 3, 4, 5, 0] rfl)
    · replace h := h.2 c62
      refine lv_bipush (v := (8 : Int32)) hx hb dX6_looks_43 (by decide) ?_
      refine lv_aload_n hx hb dX6_looks_45 rfl (lv_at hl 1 rfl) ?_
      refine lv_iload hx hb dX6_looks_46 (lv_at hl 0 rfl) ?_
      refine lv_iconst (v := (4 : Int32)) hx hb dX6_looks_48 (by decide) ?_
      refine mcalli (w1 := (wM g q)) (va_runV (As := [.int x40, .int (4 : Int32)]) (rest := [.int (8 : Int32)]) hC (kX6_its l g  q H.size S5 J x40 (4 : Int32) _ h) (cwV 2 hts gX6_looks_X6_its rfl rfl rfl (by decide +kernel) ⟨Nat.le_of_ble_eq_true rfl, Nat.le_of_ble_eq_true rfl⟩) (mpreV E0_ok hK hE hA hw (Sub1.refl _) 0 rfl rfl) rfl rfl hl.1 rfl (lv_room (Nat.le_of_ble_eq_true rfl)) dX6_looks_49 ⟨Nat.zero_le _, Nat.zero_le _⟩) hA hw (Sub1.refl _) (fun _ => Sub.whole rfl) (fun r60 u61 H locs h hw => ?_)
      obtain ⟨hu, h⟩ := h
      replace hu := hu.symm
      subst hu
      refine lv_imul hx hb dX6_looks_52 ?_
      refine lv_goto (tgt := 57) hx hb dX6_looks_53 (by decide) ?_
      exact join46 ((8 : Int32) * r60) _ _ _ h hw (lv_sub hl [1, 3, 4, 5, 0] rfl)
def wX6_mayStand (S : Bun) (J : Lon) (a1 : Int32) (post : Int32 → Prop) : Prop :=
  ((a1 = 0 → wloop (σ := Int32 × Int32) (fun K3 z => match z with | (x1, x2) => ((a1 ≤ x2 → zb x1 ∧ post x1) ∧ (¬ (a1 ≤ x2) → ((x1 = 0 → ∀ x9 : Int32, x9 = x2 + (1 : Int32) → K3 ((0 : Int32), x9)) ∧ (¬ (x1 = 0) → vp_in x2 6 ∧ vp_in a1 6 ∧ (((S 16 x2.toNatClampNeg) = (S 16 a1.toNatClampNeg) → ∀ x11 : Int32, x11 = x2 + (1 : Int32) → K3 ((0 : Int32), x11)) ∧ (¬ ((S 16 x2.toNatClampNeg) = (S 16 a1.toNatClampNeg)) → ∀ x13 : Int32, x13 = x2 + (1 : Int32) → K3 ((1 : Int32), x13)))))))) ((1 : Int32), (0 : Int32))) ∧ (¬ (a1 = 0) → vp_in (a1 - (1 : Int32)) 6 ∧ vp_in ((38 : Int32) + (S 16 (a1 - (1 : Int32)).toNatClampNeg)) 56 ∧ vp_in a1 6 ∧ wX6_has (S 1 ((38 : Int32) + (S 16 (a1 - (1 : Int32)).toNatClampNeg)).toNatClampNeg) (S 16 a1.toNatClampNeg) (fun r18 => ((r18 = 0 → wloop (σ := Int32 × Int32) (fun K22 z => match z with | (x20, x21) => ((a1 ≤ x21 → zb x20 ∧ post x20) ∧ (¬ (a1 ≤ x21) → ((x20 = 0 → ∀ x28 : Int32, x28 = x21 + (1 : Int32) → K22 ((0 : Int32), x28)) ∧ (¬ (x20 = 0) → vp_in x21 6 ∧ vp_in a1 6 ∧ (((S 16 x21.toNatClampNeg) = (S 16 a1.toNatClampNeg) → ∀ x30 : Int32, x30 = x21 + (1 : Int32) → K22 ((0 : Int32), x30)) ∧ (¬ ((S 16 x21.toNatClampNeg) = (S 16 a1.toNatClampNeg)) → ∀ x32 : Int32, x32 = x21 + (1 : Int32) → K22 ((1 : Int32), x32)))))))) ((0 : Int32), (0 : Int32))) ∧ (¬ (r18 = 0) → wloop (σ := Int32 × Int32) (fun K39 z => match z with | (x37, x38) => ((a1 ≤ x38 → zb x37 ∧ post x37) ∧ (¬ (a1 ≤ x38) → ((x37 = 0 → ∀ x45 : Int32, x45 = x38 + (1 : Int32) → K39 ((0 : Int32), x45)) ∧ (¬ (x37 = 0) → vp_in x38 6 ∧ vp_in a1 6 ∧ (((S 16 x38.toNatClampNeg) = (S 16 a1.toNatClampNeg) → ∀ x47 : Int32, x47 = x38 + (1 : Int32) → K39 ((0 : Int32), x47)) ∧ (¬ ((S 16 x38.toNatClampNeg) = (S 16 a1.toNatClampNeg)) → ∀ x49 : Int32, x49 = x38 + (1 : Int32) → K39 ((1 : Int32), x49)))))))) ((1 : Int32), (0 : Int32)))))))
set_option maxRecDepth 100000 in
set_option maxHeartbeats 4000000 in
theorem kX6_mayStand (l : Launch) (g : Gl)  (q : Nat → Nat) (sz : Nat) (S : Bun) (J : Lon) (a1 : Int32) (post : Int32 → Prop) (h : wX6_mayStand S J a1 post) : Met l yX6_mayStand wsX6_mayStand (rmm 1 21) (wPc g E0 ((wM g q) (S, J)) sz [.ref (q 0), .int a1]) (va_Qi (fun (r : Int32) (u : Bun × Lon) => u = (S, J) ∧ post r) (wB g (wM g q) (va_A ((wM g q) (S, J)) sz)) (va_A ((wM g q) (S, J)) sz)) 0 0 (va_A ((wM g q) (S, J)) sz) := by
  refine mstart (Qf := fun A => va_Qi (fun (r : Int32) (u : Bun × Lon) => u = (S, J) ∧ post r) (wB g (wM g q) A) A) (by decide) rfl (Nat.le_of_ble_eq_true rfl) ?_
  intro p e s m args below meth c A Q H locs ls hC hr hlocks hname hQ hA hK hE hw hl
  have hC : CallFix p m c cX6_mayStand 4 s args wsX6_mayStand RX6 := hC
  obtain ⟨hx, hb, -, hown, hts⟩ := id hC
  have hl : lv_has ls 4 [(0, .ref (q 0)), (1, .int a1)] := hl
  rw [wX6_mayStand] at h
  have hinX6 : ∀ w ∈ wsX60, w ∈ wsX6_mayStand := fun w hw9 => List.mem_cons_of_mem _ (List.mem_append_right _ hw9)
  refine lv_iload_n hx hb dX6_mayStand_0 rfl (lv_at hl 1 rfl) ?_
  refine lv_if_eq (tgt := 32) hx hb dX6_mayStand_1 (by decide) (fun c55 => ?_) (fun c55 => ?_)
  · replace h := h.1 c55
    refine lv_iconst (v := (1 : Int32)) hx hb dX6_mayStand_32 (by decide) ?_
    refine lv_goto (tgt := 37) hx hb dX6_mayStand_33 (by decide) ?_
    refine lv_istore_n (lv' := [(2, .int (1 : Int32)), (0, .ref (q 0)), (1, .int a1)]) hx hb dX6_mayStand_37 rfl hl (by decide) rfl (fun ls hl => ?_)
    refine lv_iconst (v := (0 : Int32)) hx hb dX6_mayStand_38 (by decide) ?_
    refine lv_istore_n (lv' := [(3, .int (0 : Int32)), (2, .int (1 : Int32)), (0, .ref (q 0)), (1, .int a1)]) hx hb dX6_mayStand_39 rfl hl (by decide) rfl (fun ls hl => ?_)
    refine h (fun z => match z with | (x1, x2) => ∀ (H : Heap) (locs : List Loc) (ls : Array Slot), Wd g.1 A s.heap ((wM g q) (S, J)) H locs → lv_has ls 4 [(0, .ref (q 0)), (1, .int a1), (2, .int x1), (3, .int x2)] → W p l e (rmm 1 21) s m args below meth c H locs 0 0 Q (F0 m 40 ls [])) ?_ _ _ _ hw (lv_sub hl [2, 3, 1, 0] rfl)
    clear h hw hl
    rintro ⟨x1, x2⟩ h H locs ls hw hl
    refine lv_iload_n hx hb dX6_mayStand_40 rfl (lv_at hl 3 rfl) ?_
    refine lv_iload_n hx hb dX6_mayStand_41 rfl (lv_at hl 1 rfl) ?_
    refine lv_icmp_ge (tgt := 76) hx hb dX6_mayStand_42 (by decide) (fun c17 => ?_) (fun c17 => ?_)
    · replace h := h.1 c17
      refine lv_iload_n hx hb dX6_mayStand_76 rfl (lv_at hl 2 rfl) ?_
      obtain ⟨hz, h⟩ := h
      rw [hQ]
      exact mretz (w := (wM g q)) (u := (S, J)) hC hr hlocks hK hw hz ⟨rfl, h⟩ dX6_mayStand_77
    · replace h := h.2 c17
      refine lv_iload_n hx hb dX6_mayStand_45 rfl (lv_at hl 2 rfl) ?_
      refine lv_if_eq (tgt := 68) hx hb dX6_mayStand_46 (by decide) (fun c16 => ?_) (fun c16 => ?_)
      · replace h := h.1 c16
        refine lv_iconst (v := (0 : Int32)) hx hb dX6_mayStand_68 (by decide) ?_
        refine lv_istore_n (lv' := [(2, .int (0 : Int32)), (0, .ref (q 0)), (1, .int a1), (3, .int x2)]) hx hb dX6_mayStand_69 rfl hl (by decide) rfl (fun ls hl => ?_)
        obtain ⟨x9, ex9⟩ : ∃ y : Int32, y = x2 + (1 : Int32) := ⟨_, rfl⟩
        refine lv_iinc (v := x9) (lv' := [(3, .int x9), (2, .int (0 : Int32)), (0, .ref (q 0)), (1, .int a1)]) hx hb dX6_mayStand_70 hl (k := 3) rfl (by rw [ex9]; rfl) (by decide) rfl (fun ls hl => ?_)
        replace h := h x9 ex9
        refine lv_goto (tgt := 40) hx hb dX6_mayStand_73 (by decide) ?_
        exact h _ _ _ hw (lv_sub hl [2, 3, 1, 0] rfl)
      · replace h := h.2 c16
        refine lv_aload_n hx hb dX6_mayStand_49 rfl (lv_at hl 0 rfl) ?_
        refine M_mg15 hC hinX6 hK hw (List.mem_of_getElem? (i := 2) rfl) dX6_mayStand_50 ?_
        refine lv_iload_n hx hb dX6_mayStand_53 rfl (lv_at hl 3 rfl) ?_
        obtain ⟨hi, h⟩ := h
        refine M_ml15 hC hK hw hi dX6_mayStand_54 ?_
        refine lv_aload_n hx hb dX6_mayStand_55 rfl (lv_at hl 0 rfl) ?_
        refine M_mg15 hC hinX6 hK hw (List.mem_of_getElem? (i := 2) rfl) dX6_mayStand_56 ?_
        refine lv_iload_n hx hb dX6_mayStand_59 rfl (lv_at hl 1 rfl) ?_
        obtain ⟨hi, h⟩ := h
        refine M_ml15 hC hK hw hi dX6_mayStand_60 ?_
        refine lv_icmp_eq (tgt := 68) hx hb dX6_mayStand_61 (by decide) (fun c15 => ?_) (fun c15 => ?_)
        · replace h := h.1 c15
          refine lv_iconst (v := (0 : Int32)) hx hb dX6_mayStand_68 (by decide) ?_
          refine lv_istore_n (lv' := [(2, .int (0 : Int32)), (0, .ref (q 0)), (1, .int a1), (3, .int x2)]) hx hb dX6_mayStand_69 rfl hl (by decide) rfl (fun ls hl => ?_)
          obtain ⟨x11, ex11⟩ : ∃ y : Int32, y = x2 + (1 : Int32) := ⟨_, rfl⟩
          refine lv_iinc (v := x11) (lv' := [(3, .int x11), (2, .int (0 : Int32)), (0, .ref (q 0)), (1, .int a1)]) hx hb dX6_mayStand_70 hl (k := 3) rfl (by rw [ex11]; rfl) (by decide) rfl (fun ls hl => ?_)
          replace h := h x11 ex11
          refine lv_goto (tgt := 40) hx hb dX6_mayStand_73 (by decide) ?_
          exact h _ _ _ hw (lv_sub hl [2, 3, 1, 0] rfl)
        · replace h := h.2 c15
          refine lv_iconst (v := (1 : Int32)) hx hb dX6_mayStand_64 (by decide) ?_
          refine lv_goto (tgt := 69) hx hb dX6_mayStand_65 (by decide) ?_
          refine lv_istore_n (lv' := [(2, .int (1 : Int32)), (0, .ref (q 0)), (1, .int a1), (3, .int x2)]) hx hb dX6_mayStand_69 rfl hl (by decide) rfl (fun ls hl => ?_)
          obtain ⟨x13, ex13⟩ : ∃ y : Int32, y = x2 + (1 : Int32) := ⟨_, rfl⟩
          refine lv_iinc (v := x13) (lv' := [(3, .int x13), (2, .int (1 : Int32)), (0, .ref (q 0)), (1, .int a1)]) hx hb dX6_mayStand_70 hl (k := 3) rfl (by rw [ex13]; rfl) (by decide) rfl (fun ls hl => ?_)
          replace h := h x13 ex13
          refine lv_goto (tgt := 40) hx hb dX6_mayStand_73 (by decide) ?_
          exact h _ _ _ hw (lv_sub hl [2, 3, 1, 0] rfl)
  · replace h := h.2 c55
    refine lv_aload_n hx hb dX6_mayStand_4 rfl (lv_at hl 0 rfl) ?_
    refine M_mg0 hC hinX6 hK hw (List.mem_of_getElem? (i := 1) rfl) dX6_mayStand_5 ?_
    refine lv_bipush (v := (38 : Int32)) hx hb dX6_mayStand_8 (by decide) ?_
    refine lv_aload_n hx hb dX6_mayStand_10 rfl (lv_at hl 0 rfl) ?_
    refine M_mg15 hC hinX6 hK hw (List.mem_of_getElem? (i := 2) rfl) dX6_mayStand_11 ?_
    refine lv_iload_n hx hb dX6_mayStand_14 rfl (lv_at hl 1 rfl) ?_
    refine lv_iconst (v := (1 : Int32)) hx hb dX6_mayStand_15 (by decide) ?_
    refine lv_isub hx hb dX6_mayStand_16 ?_
    obtain ⟨hi, h⟩ := h
    refine M_ml15 hC hK hw hi dX6_mayStand_17 ?_
    refine lv_iadd hx hb dX6_mayStand_18 ?_
    obtain ⟨hi, h⟩ := h
    refine M_ml0 hC hK hw hi dX6_mayStand_19 ?_
    refine lv_aload_n hx hb dX6_mayStand_20 rfl (lv_at hl 0 rfl) ?_
    refine M_mg15 hC hinX6 hK hw (List.mem_of_getElem? (i := 2) rfl) dX6_mayStand_21 ?_
    refine lv_iload_n hx hb dX6_mayStand_24 rfl (lv_at hl 1 rfl) ?_
    obtain ⟨hi, h⟩ := h
    refine M_ml15 hC hK hw hi dX6_mayStand_25 ?_
    refine mcalli (w1 := (fun _ => (wM g q) (S, J))) (wc := fun _ : Unit => ([] : va_W)) (u := ()) (va_runS (As := [.int (S 1 ((38 : Int32) + (S 16 (a1 - (1 : Int32)).toNatClampNeg)).toNatClampNeg), .int (S 16 a1.toNatClampNeg)]) (rest := []) hC (kX6_has l g  H.size (S 1 ((38 : Int32) + (S 16 (a1 - (1 : Int32)).toNatClampNeg)).toNatClampNeg) (S 16 a1.toNatClampNeg) _ h) (va_cwS 2 hts gX6_mayStand_X6_has rfl rfl rfl (by decide +kernel) ⟨Nat.le_of_ble_eq_true rfl, Nat.le_of_ble_eq_true rfl⟩) (mpre E0_ok hK hE hA hw (Sub1.nil _)) rfl rfl hl.1 rfl (lv_room (Nat.le_of_ble_eq_true rfl)) dX6_mayStand_26 ⟨Nat.zero_le _, Nat.zero_le _⟩) hA hw (Sub1.nil _) (fun _ => Sub.nil _) (fun r18 u19 H locs h hw => ?_)
    obtain ⟨_, h⟩ := h
    refine lv_if_eq (tgt := 36) hx hb dX6_mayStand_29 (by decide) (fun c54 => ?_) (fun c54 => ?_)
    · replace h := h.1 c54
      refine lv_iconst (v := (0 : Int32)) hx hb dX6_mayStand_36 (by decide) ?_
      refine lv_istore_n (lv' := [(2, .int (0 : Int32)), (0, .ref (q 0)), (1, .int a1)]) hx hb dX6_mayStand_37 rfl hl (by decide) rfl (fun ls hl => ?_)
      refine lv_iconst (v := (0 : Int32)) hx hb dX6_mayStand_38 (by decide) ?_
      refine lv_istore_n (lv' := [(3, .int (0 : Int32)), (2, .int (0 : Int32)), (0, .ref (q 0)), (1, .int a1)]) hx hb dX6_mayStand_39 rfl hl (by decide) rfl (fun ls hl => ?_)
      refine h (fun z => match z with | (x20, x21) => ∀ (H : Heap) (locs : List Loc) (ls : Array Slot), Wd g.1 A s.heap ((wM g q) (S, J)) H locs → lv_has ls 4 [(0, .ref (q 0)), (1, .int a1), (2, .int x20), (3, .int x21)] → W p l e (rmm 1 21) s m args below meth c H locs 0 0 Q (F0 m 40 ls [])) ?_ _ _ _ hw (lv_sub hl [2, 3, 1, 0] rfl)
      clear h hw hl
      rintro ⟨x20, x21⟩ h H locs ls hw hl
      refine lv_iload_n hx hb dX6_mayStand_40 rfl (lv_at hl 3 rfl) ?_
      refine lv_iload_n hx hb dX6_mayStand_41 rfl (lv_at hl 1 rfl) ?_
      refine lv_icmp_ge (tgt := 76) hx hb dX6_mayStand_42 (by decide) (fun c36 => ?_) (fun c36 => ?_)
      · replace h := h.1 c36
        refine lv_iload_n hx hb dX6_mayStand_76 rfl (lv_at hl 2 rfl) ?_
        obtain ⟨hz, h⟩ := h
        rw [hQ]
        exact mretz (w := (wM g q)) (u := (S, J)) hC hr hlocks hK hw hz ⟨rfl, h⟩ dX6_mayStand_77
      · replace h := h.2 c36
        refine lv_iload_n hx hb dX6_mayStand_45 rfl (lv_at hl 2 rfl) ?_
        refine lv_if_eq (tgt := 68) hx hb dX6_mayStand_46 (by decide) (fun c35 => ?_) (fun c35 => ?_)
        · replace h := h.1 c35
          refine lv_iconst (v := (0 : Int32)) hx hb dX6_mayStand_68 (by decide) ?_
          refine lv_istore_n (lv' := [(2, .int (0 : Int32)), (0, .ref (q 0)), (1, .int a1), (3, .int x21)]) hx hb dX6_mayStand_69 rfl hl (by decide) rfl (fun ls hl => ?_)
          obtain ⟨x28, ex28⟩ : ∃ y : Int32, y = x21 + (1 : Int32) := ⟨_, rfl⟩
          refine lv_iinc (v := x28) (lv' := [(3, .int x28), (2, .int (0 : Int32)), (0, .ref (q 0)), (1, .int a1)]) hx hb dX6_mayStand_70 hl (k := 3) rfl (by rw [ex28]; rfl) (by decide) rfl (fun ls hl => ?_)
          replace h := h x28 ex28
          refine lv_goto (tgt := 40) hx hb dX6_mayStand_73 (by decide) ?_
          exact h _ _ _ hw (lv_sub hl [2, 3, 1, 0] rfl)
        · replace h := h.2 c35
          refine lv_aload_n hx hb dX6_mayStand_49 rfl (lv_at hl 0 rfl) ?_
          refine M_mg15 hC hinX6 hK hw (List.mem_of_getElem? (i := 2) rfl) dX6_mayStand_50 ?_
          refine lv_iload_n hx hb dX6_mayStand_53 rfl (lv_at hl 3 rfl) ?_
          obtain ⟨hi, h⟩ := h
          refine M_ml15 hC hK hw hi dX6_mayStand_54 ?_
          refine lv_aload_n hx hb dX6_mayStand_55 rfl (lv_at hl 0 rfl) ?_
          refine M_mg15 hC hinX6 hK hw (List.mem_of_getElem? (i := 2) rfl) dX6_mayStand_56 ?_
          refine lv_iload_n hx hb dX6_mayStand_59 rfl (lv_at hl 1 rfl) ?_
          obtain ⟨hi, h⟩ := h
          refine M_ml15 hC hK hw hi dX6_mayStand_60 ?_
          refine lv_icmp_eq (tgt := 68) hx hb dX6_mayStand_61 (by decide) (fun c34 => ?_) (fun c34 => ?_)
          · replace h := h.1 c34
            refine lv_iconst (v := (0 : Int32)) hx hb dX6_mayStand_68 (by decide) ?_
            refine lv_istore_n (lv' := [(2, .int (0 : Int32)), (0, .ref (q 0)), (1, .int a1), (3, .int x21)]) hx hb dX6_mayStand_69 rfl hl (by decide) rfl (fun ls hl => ?_)
            obtain ⟨x30, ex30⟩ : ∃ y : Int32, y = x21 + (1 : Int32) := ⟨_, rfl⟩
            refine lv_iinc (v := x30) (lv' := [(3, .int x30), (2, .int (0 : Int32)), (0, .ref (q 0)), (1, .int a1)]) hx hb dX6_mayStand_70 hl (k := 3) rfl (by rw [ex30]; rfl) (by decide) rfl (fun ls hl => ?_)
            replace h := h x30 ex30
            refine lv_goto (tgt := 40) hx hb dX6_mayStand_73 (by decide) ?_
            exact h _ _ _ hw (lv_sub hl [2, 3, 1, 0] rfl)
          · replace h := h.2 c34
            refine lv_iconst (v := (1 : Int32)) hx hb dX6_mayStand_64 (by decide) ?_
            refine lv_goto (tgt := 69) hx hb dX6_mayStand_65 (by decide) ?_
            refine lv_istore_n (lv' := [(2, .int (1 : Int32)), (0, .ref (q 0)), (1, .int a1), (3, .int x21)]) hx hb dX6_mayStand_69 rfl hl (by decide) rfl (fun ls hl => ?_)
            obtain ⟨x32, ex32⟩ : ∃ y : Int32, y = x21 + (1 : Int32) := ⟨_, rfl⟩
            refine lv_iinc (v := x32) (lv' := [(3, .int x32), (2, .int (1 : Int32)), (0, .ref (q 0)), (1, .int a1)]) hx hb dX6_mayStand_70 hl (k := 3) rfl (by rw [ex32]; rfl) (by decide) rfl (fun ls hl => ?_)
            replace h := h x32 ex32
            refine lv_goto (tgt := 40) hx hb dX6_mayStand_73 (by decide) ?_
            exact h _ _ _ hw (lv_sub hl [2, 3, 1, 0] rfl)
    · replace h := h.2 c54
      refine lv_iconst (v := (1 : Int32)) hx hb dX6_mayStand_32 (by decide) ?_
      refine lv_goto (tgt := 37) hx hb dX6_mayStand_33 (by decide) ?_
      refine lv_istore_n (lv' := [(2, .int (1 : Int32)), (0, .ref (q 0)), (1, .int a1)]) hx hb dX6_mayStand_37 rfl hl (by decide) rfl (fun ls hl => ?_)
      refine lv_iconst (v := (0 : Int32)) hx hb dX6_mayStand_38 (by decide) ?_
      refine lv_istore_n (lv' := [(3, .int (0 : Int32)), (2, .int (1 : Int32)), (0, .ref (q 0)), (1, .int a1)]) hx hb dX6_mayStand_39 rfl hl (by decide) rfl (fun ls hl => ?_)
      refine h (fun z => match z with | (x37, x38) => ∀ (H : Heap) (locs : List Loc) (ls : Array Slot), Wd g.1 A s.heap ((wM g q) (S, J)) H locs → lv_has ls 4 [(0, .ref (q 0)), (1, .int a1), (2, .int x37), (3, .int x38)] → W p l e (rmm 1 21) s m args below meth c H locs 0 0 Q (F0 m 40 ls [])) ?_ _ _ _ hw (lv_sub hl [2, 3, 1, 0] rfl)
      clear h hw hl
      rintro ⟨x37, x38⟩ h H locs ls hw hl
      refine lv_iload_n hx hb dX6_mayStand_40 rfl (lv_at hl 3 rfl) ?_
      refine lv_iload_n hx hb dX6_mayStand_41 rfl (lv_at hl 1 rfl) ?_
      refine lv_icmp_ge (tgt := 76) hx hb dX6_mayStand_42 (by decide) (fun c53 => ?_) (fun c53 => ?_)
      · replace h := h.1 c53
        refine lv_iload_n hx hb dX6_mayStand_76 rfl (lv_at hl 2 rfl) ?_
        obtain ⟨hz, h⟩ := h
        rw [hQ]
        exact mretz (w := (wM g q)) (u := (S, J)) hC hr hlocks hK hw hz ⟨rfl, h⟩ dX6_mayStand_77
      · replace h := h.2 c53
        refine lv_iload_n hx hb dX6_mayStand_45 rfl (lv_at hl 2 rfl) ?_
        refine lv_if_eq (tgt := 68) hx hb dX6_mayStand_46 (by decide) (fun c52 => ?_) (fun c52 => ?_)
        · replace h := h.1 c52
          refine lv_iconst (v := (0 : Int32)) hx hb dX6_mayStand_68 (by decide) ?_
          refine lv_istore_n (lv' := [(2, .int (0 : Int32)), (0, .ref (q 0)), (1, .int a1), (3, .int x38)]) hx hb dX6_mayStand_69 rfl hl (by decide) rfl (fun ls hl => ?_)
          obtain ⟨x45, ex45⟩ : ∃ y : Int32, y = x38 + (1 : Int32) := ⟨_, rfl⟩
          refine lv_iinc (v := x45) (lv' := [(3, .int x45), (2, .int (0 : Int32)), (0, .ref (q 0)), (1, .int a1)]) hx hb dX6_mayStand_70 hl (k := 3) rfl (by rw [ex45]; rfl) (by decide) rfl (fun ls hl => ?_)
          replace h := h x45 ex45
          refine lv_goto (tgt := 40) hx hb dX6_mayStand_73 (by decide) ?_
          exact h _ _ _ hw (lv_sub hl [2, 3, 1, 0] rfl)
        · replace h := h.2 c52
          refine lv_aload_n hx hb dX6_mayStand_49 rfl (lv_at hl 0 rfl) ?_
          refine M_mg15 hC hinX6 hK hw (List.mem_of_getElem? (i := 2) rfl) dX6_mayStand_50 ?_
          refine lv_iload_n hx hb dX6_mayStand_53 rfl (lv_at hl 3 rfl) ?_
          obtain ⟨hi, h⟩ := h
          refine M_ml15 hC hK hw hi dX6_mayStand_54 ?_
          refine lv_aload_n hx hb dX6_mayStand_55 rfl (lv_at hl 0 rfl) ?_
          refine M_mg15 hC hinX6 hK hw (List.mem_of_getElem? (i := 2) rfl) dX6_mayStand_56 ?_
          refine lv_iload_n hx hb dX6_mayStand_59 rfl (lv_at hl 1 rfl) ?_
          obtain ⟨hi, h⟩ := h
          refine M_ml15 hC hK hw hi dX6_mayStand_60 ?_
          refine lv_icmp_eq (tgt := 68) hx hb dX6_mayStand_61 (by decide) (fun c51 => ?_) (fun c51 => ?_)
          · replace h := h.1 c51
            refine lv_iconst (v := (0 : Int32)) hx hb dX6_mayStand_68 (by decide) ?_
            refine lv_istore_n (lv' := [(2, .int (0 : Int32)), (0, .ref (q 0)), (1, .int a1), (3, .int x38)]) hx hb dX6_mayStand_69 rfl hl (by decide) rfl (fun ls hl => ?_)
            obtain ⟨x47, ex47⟩ : ∃ y : Int32, y = x38 + (1 : Int32) := ⟨_, rfl⟩
            refine lv_iinc (v := x47) (lv' := [(3, .int x47), (2, .int (0 : Int32)), (0, .ref (q 0)), (1, .int a1)]) hx hb dX6_mayStand_70 hl (k := 3) rfl (by rw [ex47]; rfl) (by decide) rfl (fun ls hl => ?_)
            replace h := h x47 ex47
            refine lv_goto (tgt := 40) hx hb dX6_mayStand_73 (by decide) ?_
            exact h _ _ _ hw (lv_sub hl [2, 3, 1, 0] rfl)
          · replace h := h.2 c51
            refine lv_iconst (v := (1 : Int32)) hx hb dX6_mayStand_64 (by decide) ?_
            refine lv_goto (tgt := 69) hx hb dX6_mayStand_65 (by decide) ?_
            refine lv_istore_n (lv' := [(2, .int (1 : Int32)), (0, .ref (q 0)), (1, .int a1), (3, .int x38)]) hx hb dX6_mayStand_69 rfl hl (by decide) rfl (fun ls hl => ?_)
            obtain ⟨x49, ex49⟩ : ∃ y : Int32, y = x38 + (1 : Int32) := ⟨_, rfl⟩
            refine lv_iinc (v := x49) (lv' := [(3, .int x49), (2, .int (1 : Int32)), (0, .ref (q 0)), (1, .int a1)]) hx hb dX6_mayStand_70 hl (k := 3) rfl (by rw [ex49]; rfl) (by decide) rfl (fun ls hl => ?_)
            replace h := h x49 ex49
            refine lv_goto (tgt := 40) hx hb dX6_mayStand_73 (by decide) ?_
            exact h _ _ _ hw (lv_sub hl [2, 3, 1, 0] rfl)
def wX6_findLines (S : Bun) (J : Lon)  (post : Bun → Prop) : Prop :=
  ∀ S1 : Bun, S1 = up S 0 19 (0 : Int32) → ∀ S2 : Bun, S2 = up S1 0 20 (-1 : Int32) → ∀ S3 : Bun, S3 = up S2 0 21 (0 : Int32) → ∀ S4 : Bun, S4 = up S3 0 22 (-1 : Int32) → vp_in (0 : Int32) 56 ∧ ∀ x5 : Int32, x5 = S4 1 (0 : Int32).toNatClampNeg → ((x5 ≤ 0 → wloop (σ := Int32 × Int32) (fun K8 z => match z with | (x6, x7) => ((x5 ≤ x7 → vp_in (0 : Int32) 6 ∧ ∀ S14 : Bun, S14 = up S4 16 (0 : Int32).toNatClampNeg (-1 : Int32) → wloop (σ := Int32 × Bun) (fun K17 z => match z with | (x15, S16) => ((x6 = 0 → post S16) ∧ (¬ (x6 = 0) → ((x15 < 0 → post S16) ∧ (¬ (x15 < 0) → vp_in x15 6 ∧ vp_in x15 6 ∧ ∀ S23 : Bun, S23 = up S16 16 x15.toNatClampNeg ((S16 16 x15.toNatClampNeg) + (1 : Int32)) → vp_in x15 6 ∧ (((S23 16 x15.toNatClampNeg) = x5 → ∀ x37 : Int32, x37 = x15 + (-1 : Int32) → K17 (x37, S23)) ∧ (¬ ((S23 16 x15.toNatClampNeg) = x5) → wX6_mayStand S23 J x15 (fun r24 => ((r24 = 0 → K17 (x15, S23)) ∧ (¬ (r24 = 0) → ((x15 = (x5 - (1 : Int32)) → wX6_looks S23 J  (fun S32 => K17 (x15, S32))) ∧ (¬ (x15 = (x5 - (1 : Int32))) → ∀ x27 : Int32, x27 = x15 + (1 : Int32) → vp_in x27 6 ∧ ∀ S28 : Bun, S28 = up S23 16 x27.toNatClampNeg (-1 : Int32) → K17 (x27, S28))))))))))))) ((0 : Int32), S14)) ∧ (¬ (x5 ≤ x7) → ((x6 = 0 → ∀ x42 : Int32, x42 = x7 + (1 : Int32) → K8 ((0 : Int32), x42)) ∧ (¬ (x6 = 0) → vp_in x7 6 ∧ (((S4 15 x7.toNatClampNeg) < 0 → ∀ x44 : Int32, x44 = x7 + (1 : Int32) → K8 ((0 : Int32), x44)) ∧ (¬ ((S4 15 x7.toNatClampNeg) < 0) → ∀ x46 : Int32, x46 = x7 + (1 : Int32) → K8 ((1 : Int32), x46)))))))) ((0 : Int32), (0 : Int32))) ∧ (¬ (x5 ≤ 0) → wloop (σ := Int32 × Int32) (fun K53 z => match z with | (x51, x52) => ((x5 ≤ x52 → vp_in (0 : Int32) 6 ∧ ∀ S59 : Bun, S59 = up S4 16 (0 : Int32).toNatClampNeg (-1 : Int32) → wloop (σ := Int32 × Bun) (fun K62 z => match z with | (x60, S61) => ((x51 = 0 → post S61) ∧ (¬ (x51 = 0) → ((x60 < 0 → post S61) ∧ (¬ (x60 < 0) → vp_in x60 6 ∧ vp_in x60 6 ∧ ∀ S68 : Bun, S68 = up S61 16 x60.toNatClampNeg ((S61 16 x60.toNatClampNeg) + (1 : Int32)) → vp_in x60 6 ∧ (((S68 16 x60.toNatClampNeg) = x5 → ∀ x82 : Int32, x82 = x60 + (-1 : Int32) → K62 (x82, S68)) ∧ (¬ ((S68 16 x60.toNatClampNeg) = x5) → wX6_mayStand S68 J x60 (fun r69 => ((r69 = 0 → K62 (x60, S68)) ∧ (¬ (r69 = 0) → ((x60 = (x5 - (1 : Int32)) → wX6_looks S68 J  (fun S77 => K62 (x60, S77))) ∧ (¬ (x60 = (x5 - (1 : Int32))) → ∀ x72 : Int32, x72 = x60 + (1 : Int32) → vp_in x72 6 ∧ ∀ S73 : Bun, S73 = up S68 16 x72.toNatClampNeg (-1 : Int32) → K62 (x72, S73))))))))))))) ((0 : Int32), S59)) ∧ (¬ (x5 ≤ x52) → ((x51 = 0 → ∀ x87 : Int32, x87 = x52 + (1 : Int32) → K53 ((0 : Int32), x87)) ∧ (¬ (x51 = 0) → vp_in x52 6 ∧ (((S4 15 x52.toNatClampNeg) < 0 → ∀ x89 : Int32, x89 = x52 + (1 : Int32) → K53 ((0 : Int32), x89)) ∧ (¬ ((S4 15 x52.toNatClampNeg) < 0) → ∀ x91 : Int32, x91 = x52 + (1 : Int32) → K53 ((1 : Int32), x91)))))))) ((1 : Int32), (0 : Int32))))
set_option maxRecDepth 100000 in
set_option maxHeartbeats 4000000 in
theorem kX6_findLines (l : Launch) (g : Gl)  (q : Nat → Nat) (sz : Nat) (S : Bun) (J : Lon)  (post : Bun → Prop) (h : wX6_findLines S J  post) : Met l yX6_findLines wsX6_findLines (rmm 2 48) (wPc g E0 ((wM g q) (S, J)) sz [.ref (q 0)]) (va_Qv (fun (u : Bun × Lon) => u.2 = J ∧ post u.1) (wB g (wM g q) (va_A ((wM g q) (S, J)) sz)) (va_A ((wM g q) (S, J)) sz)) 0 0 (va_A ((wM g q) (S, J)) sz) := by
  refine mstart (Qf := fun A => va_Qv (fun (u : Bun × Lon) => u.2 = J ∧ post u.1) (wB g (wM g q) A) A) (by decide) rfl (Nat.le_of_ble_eq_true rfl) ?_
  intro p e s m args below meth c A Q H locs ls hC hr hlocks hname hQ hA hK hE hw hl
  have hC : CallFix p m c cX6_findLines 4 s args wsX6_findLines RX6 := hC
  obtain ⟨hx, hb, -, hown, hts⟩ := id hC
  have hl : lv_has ls 4 [(0, .ref (q 0))] := hl
  rw [wX6_findLines] at h
  have hinX6 : ∀ w ∈ wsX60, w ∈ wsX6_findLines := fun w hw9 => List.mem_cons_of_mem _ (List.mem_append_right _ hw9)
  refine lv_aload_n hx hb dX6_findLines_0 rfl (lv_at hl 0 rfl) ?_
  refine lv_iconst (v := (0 : Int32)) hx hb dX6_findLines_1 (by decide) ?_
  refine M_mp19 hC hinX6 hK hw (List.mem_of_getElem? (i := 1) rfl) dX6_findLines_2 (fun S1 H locs eS1 hw => ?_)
  replace h := h S1 eS1
  refine lv_aload_n hx hb dX6_findLines_5 rfl (lv_at hl 0 rfl) ?_
  refine lv_iconst (v := (-1 : Int32)) hx hb dX6_findLines_6 (by decide) ?_
  refine M_mp20 hC hinX6 hK hw (List.mem_of_getElem? (i := 2) rfl) dX6_findLines_7 (fun S2 H locs eS2 hw => ?_)
  replace h := h S2 eS2
  refine lv_aload_n hx hb dX6_findLines_10 rfl (lv_at hl 0 rfl) ?_
  refine lv_iconst (v := (0 : Int32)) hx hb dX6_findLines_11 (by decide) ?_
  refine M_mp21 hC hinX6 hK hw (List.mem_of_getElem? (i := 3) rfl) dX6_findLines_12 (fun S3 H locs eS3 hw => ?_)
  replace h := h S3 eS3
  refine lv_aload_n hx hb dX6_findLines_15 rfl (lv_at hl 0 rfl) ?_
  refine lv_iconst (v := (-1 : Int32)) hx hb dX6_findLines_16 (by decide) ?_
  refine M_mp22 hC hinX6 hK hw (List.mem_of_getElem? (i := 4) rfl) dX6_findLines_17 (fun S4 H locs eS4 hw => ?_)
  replace h := h S4 eS4
  refine lv_aload_n hx hb dX6_findLines_20 rfl (lv_at hl 0 rfl) ?_
  refine M_mg0 hC hinX6 hK hw (List.mem_of_getElem? (i := 5) rfl) dX6_findLines_21 ?_
  refine lv_iconst (v := (0 : Int32)) hx hb dX6_findLines_24 (by decide) ?_
  obtain ⟨hi, h⟩ := h
  refine M_ml0 hC hK hw hi dX6_findLines_25 ?_
  refine lv_topi (fun x5 ex5 => ?_)
  replace h := h x5 ex5
  refine lv_istore_n (lv' := [(1, .int x5), (0, .ref (q 0))]) hx hb dX6_findLines_26 rfl hl (by decide) rfl (fun ls hl => ?_)
  refine lv_iload_n hx hb dX6_findLines_27 rfl (lv_at hl 0 rfl) ?_
  refine lv_if_le (tgt := 35) hx hb dX6_findLines_28 (by decide) (fun c96 => ?_) (fun c96 => ?_)
  · replace h := h.1 c96
    refine lv_iconst (v := (0 : Int32)) hx hb dX6_findLines_35 (by decide) ?_
    refine lv_istore_n (lv' := [(2, .int (0 : Int32)), (1, .int x5), (0, .ref (q 0))]) hx hb dX6_findLines_36 rfl hl (by decide) rfl (fun ls hl => ?_)
    refine lv_iconst (v := (0 : Int32)) hx hb dX6_findLines_37 (by decide) ?_
    refine lv_istore_n (lv' := [(3, .int (0 : Int32)), (2, .int (0 : Int32)), (1, .int x5), (0, .ref (q 0))]) hx hb dX6_findLines_38 rfl hl (by decide) rfl (fun ls hl => ?_)
    refine h (fun z => match z with | (x6, x7) => ∀ (H : Heap) (locs : List Loc) (ls : Array Slot), Wd g.1 A s.heap ((wM g q) (S4, J)) H locs → lv_has ls 4 [(0, .ref (q 0)), (1, .int x5), (2, .int x6), (3, .int x7)] → W p l e (rmm 2 48) s m args below meth c H locs 0 0 Q (F0 m 39 ls [])) ?_ _ _ _ hw (lv_sub hl [3, 2, 1, 0] rfl)
    clear h hw hl
    rintro ⟨x6, x7⟩ h H locs ls hw hl
    refine lv_iload_n hx hb dX6_findLines_39 rfl (lv_at hl 3 rfl) ?_
    refine lv_iload_n hx hb dX6_findLines_40 rfl (lv_at hl 1 rfl) ?_
    refine lv_icmp_ge (tgt := 69) hx hb dX6_findLines_41 (by decide) (fun c50 => ?_) (fun c50 => ?_)
    · replace h := h.1 c50
      refine lv_iconst (v := (0 : Int32)) hx hb dX6_findLines_69 (by decide) ?_
      refine lv_istore_n (lv' := [(3, .int (0 : Int32)), (0, .ref (q 0)), (1, .int x5), (2, .int x6)]) hx hb dX6_findLines_70 rfl hl (by decide) rfl (fun ls hl => ?_)
      refine lv_aload_n hx hb dX6_findLines_71 rfl (lv_at hl 1 rfl) ?_
      refine M_mg15 hC hinX6 hK hw (List.mem_of_getElem? (i := 7) rfl) dX6_findLines_72 ?_
      refine lv_iconst (v := (0 : Int32)) hx hb dX6_findLines_75 (by decide) ?_
      refine lv_iconst (v := (-1 : Int32)) hx hb dX6_findLines_76 (by decide) ?_
      obtain ⟨hi, h⟩ := h
      refine M_ms15 hC hK hw hi dX6_findLines_77 (fun S14 H locs eS14 hw => ?_)
      replace h := h S14 eS14
      refine h (fun z => match z with | (x15, S16) => ∀ (H : Heap) (locs : List Loc) (ls : Array Slot), Wd g.1 A s.heap ((wM g q) (S16, J)) H locs → lv_has ls 4 [(0, .ref (q 0)), (1, .int x5), (2, .int x6), (3, .int x15)] → W p l e (rmm 2 48) s m args below meth c H locs 0 0 Q (F0 m 78 ls [])) ?_ _ _ _ hw (lv_sub hl [1, 2, 3, 0] rfl)
      clear h hw hl
      rintro ⟨x15, S16⟩ h H locs ls hw hl
      refine lv_iload_n hx hb dX6_findLines_78 rfl (lv_at hl 2 rfl) ?_
      refine lv_if_eq (tgt := 147) hx hb dX6_findLines_79 (by decide) (fun c41 => ?_) (fun c41 => ?_)
      · replace h := h.1 c41
        rw [hQ]
        exact mretv (w := (wM g q)) (u := (S16, J)) hC hr hlocks hK hw ⟨rfl, h⟩ dX6_findLines_147
      · replace h := h.2 c41
        refine lv_iload_n hx hb dX6_findLines_82 rfl (lv_at hl 3 rfl) ?_
        refine lv_if_lt (tgt := 147) hx hb dX6_findLines_83 (by decide) (fun c40 => ?_) (fun c40 => ?_)
        · replace h := h.1 c40
          rw [hQ]
          exact mretv (w := (wM g q)) (u := (S16, J)) hC hr hlocks hK hw ⟨rfl, h⟩ dX6_findLines_147
        · replace h := h.2 c40
          refine lv_aload_n hx hb dX6_findLines_86 rfl (lv_at hl 0 rfl) ?_
          refine M_mg15 hC hinX6 hK hw (List.mem_of_getElem? (i := 7) rfl) dX6_findLines_87 ?_
          refine lv_iload_n hx hb dX6_findLines_90 rfl (lv_at hl 3 rfl) ?_
          refine lv_dup2_11 hx hb dX6_findLines_91 rfl rfl ?_
          obtain ⟨hi, h⟩ := h
          refine M_ml15 hC hK hw hi dX6_findLines_92 ?_
          refine lv_iconst (v := (1 : Int32)) hx hb dX6_findLines_93 (by decide) ?_
          refine lv_iadd hx hb dX6_findLines_94 ?_
          obtain ⟨hi, h⟩ := h
          refine M_ms15 hC hK hw hi dX6_findLines_95 (fun S23 H locs eS23 hw => ?_)
          replace h := h S23 eS23
          refine lv_aload_n hx hb dX6_findLines_96 rfl (lv_at hl 0 rfl) ?_
          refine M_mg15 hC hinX6 hK hw (List.mem_of_getElem? (i := 7) rfl) dX6_findLines_97 ?_
          refine lv_iload_n hx hb dX6_findLines_100 rfl (lv_at hl 3 rfl) ?_
          obtain ⟨hi, h⟩ := h
          refine M_ml15 hC hK hw hi dX6_findLines_101 ?_
          refine lv_iload_n hx hb dX6_findLines_102 rfl (lv_at hl 1 rfl) ?_
          refine lv_icmp_ne (tgt := 112) hx hb dX6_findLines_103 (by decide) (fun c39 => ?_) (fun c39 => ?_)
          · replace h := h.2 c39
            refine lv_aload_n hx hb dX6_findLines_112 rfl (lv_at hl 0 rfl) ?_
            refine lv_iload_n hx hb dX6_findLines_113 rfl (lv_at hl 3 rfl) ?_
            refine mcalli (w1 := (wM g q)) (va_runV (As := [.int x15]) (rest := []) hC (kX6_mayStand l g  q H.size S23 J x15 _ h) (cwV 1 hts gX6_findLines_X6_mayStand rfl rfl rfl (by decide +kernel) ⟨Nat.le_of_ble_eq_true rfl, Nat.le_of_ble_eq_true rfl⟩) (mpreV E0_ok hK hE hA hw (Sub1.refl _) 0 rfl rfl) rfl rfl hl.1 rfl (lv_room (Nat.le_of_ble_eq_true rfl)) dX6_findLines_114 ⟨Nat.zero_le _, Nat.zero_le _⟩) hA hw (Sub1.refl _) (fun _ => Sub.whole rfl) (fun r24 u25 H locs h hw => ?_)
            obtain ⟨hu, h⟩ := h
            replace hu := hu.symm
            subst hu
            refine lv_if_eq (tgt := 78) hx hb dX6_findLines_117 (by decide) (fun c36 => ?_) (fun c36 => ?_)
            · replace h := h.1 c36
              exact h _ _ _ hw (lv_sub hl [0, 1, 2, 3] rfl)
            · replace h := h.2 c36
              refine lv_iload_n hx hb dX6_findLines_120 rfl (lv_at hl 3 rfl) ?_
              refine lv_iload_n hx hb dX6_findLines_121 rfl (lv_at hl 1 rfl) ?_
              refine lv_iconst (v := (1 : Int32)) hx hb dX6_findLines_122 (by decide) ?_
              refine lv_isub hx hb dX6_findLines_123 ?_
              refine lv_icmp_ne (tgt := 134) hx hb dX6_findLines_124 (by decide) (fun c35 => ?_) (fun c35 => ?_)
              · replace h := h.2 c35
                obtain ⟨x27, ex27⟩ : ∃ y : Int32, y = x15 + (1 : Int32) := ⟨_, rfl⟩
                refine lv_iinc (v := x27) (lv' := [(3, .int x27), (0, .ref (q 0)), (1, .int x5), (2, .int x6)]) hx hb dX6_findLines_134 hl (k := 3) rfl (by rw [ex27]; rfl) (by decide) rfl (fun ls hl => ?_)
                replace h := h x27 ex27
                refine lv_aload_n hx hb dX6_findLines_137 rfl (lv_at hl 1 rfl) ?_
                refine M_mg15 hC hinX6 hK hw (List.mem_of_getElem? (i := 7) rfl) dX6_findLines_138 ?_
                refine lv_iload_n hx hb dX6_findLines_141 rfl (lv_at hl 0 rfl) ?_
                refine lv_iconst (v := (-1 : Int32)) hx hb dX6_findLines_142 (by decide) ?_
                obtain ⟨hi, h⟩ := h
                refine M_ms15 hC hK hw hi dX6_findLines_143 (fun S28 H locs eS28 hw => ?_)
                replace h := h S28 eS28
                refine lv_goto (tgt := 78) hx hb dX6_findLines_144 (by decide) ?_
                exact h _ _ _ hw (lv_sub hl [1, 2, 3, 0] rfl)
              · replace h := h.1 c35
                refine lv_aload_n hx hb dX6_findLines_127 rfl (lv_at hl 0 rfl) ?_
                refine mcallv (w1 := (wM g q)) (va_runV (As := []) (rest := []) hC (kX6_looks l g  q H.size S23 J  _ h) (cwV 0 hts gX6_findLines_X6_looks rfl rfl rfl (by decide +kernel) ⟨Nat.le_of_ble_eq_true rfl, Nat.le_of_ble_eq_true rfl⟩) (mpreV E0_ok hK hE hA hw (Sub1.refl _) 0 rfl rfl) rfl rfl hl.1 rfl (lv_room (Nat.le_of_ble_eq_true rfl)) dX6_findLines_128 ⟨Nat.zero_le _, Nat.zero_le _⟩) hA hw (Sub1.refl _) (fun _ => Sub.whole rfl) (fun u31 H locs h hw => ?_)
                obtain ⟨S32, J33⟩ := u31
                obtain ⟨hu, h⟩ := h
                replace hu : J = J33 := hu.symm
                subst hu
                refine lv_goto (tgt := 78) hx hb dX6_findLines_131 (by decide) ?_
                exact h _ _ _ hw (lv_sub hl [0, 1, 2, 3] rfl)
          · replace h := h.1 c39
            obtain ⟨x37, ex37⟩ : ∃ y : Int32, y = x15 + (-1 : Int32) := ⟨_, rfl⟩
            refine lv_iinc (v := x37) (lv' := [(3, .int x37), (0, .ref (q 0)), (1, .int x5), (2, .int x6)]) hx hb dX6_findLines_106 hl (k := 3) rfl (by rw [ex37]; rfl) (by decide) rfl (fun ls hl => ?_)
            replace h := h x37 ex37
            refine lv_goto (tgt := 78) hx hb dX6_findLines_109 (by decide) ?_
            exact h _ _ _ hw (lv_sub hl [1, 2, 3, 0] rfl)
    · replace h := h.2 c50
      refine lv_iload_n hx hb dX6_findLines_44 rfl (lv_at hl 2 rfl) ?_
      refine lv_if_eq (tgt := 61) hx hb dX6_findLines_45 (by decide) (fun c49 => ?_) (fun c49 => ?_)
      · replace h := h.1 c49
        refine lv_iconst (v := (0 : Int32)) hx hb dX6_findLines_61 (by decide) ?_
        refine lv_istore_n (lv' := [(2, .int (0 : Int32)), (0, .ref (q 0)), (1, .int x5), (3, .int x7)]) hx hb dX6_findLines_62 rfl hl (by decide) rfl (fun ls hl => ?_)
        obtain ⟨x42, ex42⟩ : ∃ y : Int32, y = x7 + (1 : Int32) := ⟨_, rfl⟩
        refine lv_iinc (v := x42) (lv' := [(3, .int x42), (2, .int (0 : Int32)), (0, .ref (q 0)), (1, .int x5)]) hx hb dX6_findLines_63 hl (k := 3) rfl (by rw [ex42]; rfl) (by decide) rfl (fun ls hl => ?_)
        replace h := h x42 ex42
        refine lv_goto (tgt := 39) hx hb dX6_findLines_66 (by decide) ?_
        exact h _ _ _ hw (lv_sub hl [2, 3, 1, 0] rfl)
      · replace h := h.2 c49
        refine lv_aload_n hx hb dX6_findLines_48 rfl (lv_at hl 0 rfl) ?_
        refine M_mg14 hC hinX6 hK hw (List.mem_of_getElem? (i := 6) rfl) dX6_findLines_49 ?_
        refine lv_iload_n hx hb dX6_findLines_52 rfl (lv_at hl 3 rfl) ?_
        obtain ⟨hi, h⟩ := h
        refine M_ml14 hC hK hw hi dX6_findLines_53 ?_
        refine lv_if_lt (tgt := 61) hx hb dX6_findLines_54 (by decide) (fun c48 => ?_) (fun c48 => ?_)
        · replace h := h.1 c48
          refine lv_iconst (v := (0 : Int32)) hx hb dX6_findLines_61 (by decide) ?_
          refine lv_istore_n (lv' := [(2, .int (0 : Int32)), (0, .ref (q 0)), (1, .int x5), (3, .int x7)]) hx hb dX6_findLines_62 rfl hl (by decide) rfl (fun ls hl => ?_)
          obtain ⟨x44, ex44⟩ : ∃ y : Int32, y = x7 + (1 : Int32) := ⟨_, rfl⟩
          refine lv_iinc (v := x44) (lv' := [(3, .int x44), (2, .int (0 : Int32)), (0, .ref (q 0)), (1, .int x5)]) hx hb dX6_findLines_63 hl (k := 3) rfl (by rw [ex44]; rfl) (by decide) rfl (fun ls hl => ?_)
          replace h := h x44 ex44
          refine lv_goto (tgt := 39) hx hb dX6_findLines_66 (by decide) ?_
          exact h _ _ _ hw (lv_sub hl [2, 3, 1, 0] rfl)
        · replace h := h.2 c48
          refine lv_iconst (v := (1 : Int32)) hx hb dX6_findLines_57 (by decide) ?_
          refine lv_goto (tgt := 62) hx hb dX6_findLines_58 (by decide) ?_
          refine lv_istore_n (lv' := [(2, .int (1 : Int32)), (0, .ref (q 0)), (1, .int x5), (3, .int x7)]) hx hb dX6_findLines_62 rfl hl (by decide) rfl (fun ls hl => ?_)
          obtain ⟨x46, ex46⟩ : ∃ y : Int32, y = x7 + (1 : Int32) := ⟨_, rfl⟩
          refine lv_iinc (v := x46) (lv' := [(3, .int x46), (2, .int (1 : Int32)), (0, .ref (q 0)), (1, .int x5)]) hx hb dX6_findLines_63 hl (k := 3) rfl (by rw [ex46]; rfl) (by decide) rfl (fun ls hl => ?_)
          replace h := h x46 ex46
          refine lv_goto (tgt := 39) hx hb dX6_findLines_66 (by decide) ?_
          exact h _ _ _ hw (lv_sub hl [2, 3, 1, 0] rfl)
  · replace h := h.2 c96
    refine lv_iconst (v := (1 : Int32)) hx hb dX6_findLines_31 (by decide) ?_
    refine lv_goto (tgt := 36) hx hb dX6_findLines_32 (by decide) ?_
    refine lv_istore_n (lv' := [(2, .int (1 : Int32)), (1, .int x5), (0, .ref (q 0))]) hx hb dX6_findLines_36 rfl hl (by decide) rfl (fun ls hl => ?_)
    refine lv_iconst (v := (0 : Int32)) hx hb dX6_findLines_37 (by decide) ?_
    refine lv_istore_n (lv' := [(3, .int (0 : Int32)), (2, .int (1 : Int32)), (1, .int x5), (0, .ref (q 0))]) hx hb dX6_findLines_38 rfl hl (by decide) rfl (fun ls hl => ?_)
    refine h (fun z => match z with | (x51, x52) => ∀ (H : Heap) (locs : List Loc) (ls : Array Slot), Wd g.1 A s.heap ((wM g q) (S4, J)) H locs → lv_has ls 4 [(0, .ref (q 0)), (1, .int x5), (2, .int x51), (3, .int x52)] → W p l e (rmm 2 48) s m args below meth c H locs 0 0 Q (F0 m 39 ls [])) ?_ _ _ _ hw (lv_sub hl [3, 2, 1, 0] rfl)
    clear h hw hl
    rintro ⟨x51, x52⟩ h H locs ls hw hl
    refine lv_iload_n hx hb dX6_findLines_39 rfl (lv_at hl 3 rfl) ?_
    refine lv_iload_n hx hb dX6_findLines_40 rfl (lv_at hl 1 rfl) ?_
    refine lv_icmp_ge (tgt := 69) hx hb dX6_findLines_41 (by decide) (fun c95 => ?_) (fun c95 => ?_)
    · replace h := h.1 c95
      refine lv_iconst (v := (0 : Int32)) hx hb dX6_findLines_69 (by decide) ?_
      refine lv_istore_n (lv' := [(3, .int (0 : Int32)), (0, .ref (q 0)), (1, .int x5), (2, .int x51)]) hx hb dX6_findLines_70 rfl hl (by decide) rfl (fun ls hl => ?_)
      refine lv_aload_n hx hb dX6_findLines_71 rfl (lv_at hl 1 rfl) ?_
      refine M_mg15 hC hinX6 hK hw (List.mem_of_getElem? (i := 7) rfl) dX6_findLines_72 ?_
      refine lv_iconst (v := (0 : Int32)) hx hb dX6_findLines_75 (by decide) ?_
      refine lv_iconst (v := (-1 : Int32)) hx hb dX6_findLines_76 (by decide) ?_
      obtain ⟨hi, h⟩ := h
      refine M_ms15 hC hK hw hi dX6_findLines_77 (fun S59 H locs eS59 hw => ?_)
      replace h := h S59 eS59
      refine h (fun z => match z with | (x60, S61) => ∀ (H : Heap) (locs : List Loc) (ls : Array Slot), Wd g.1 A s.heap ((wM g q) (S61, J)) H locs → lv_has ls 4 [(0, .ref (q 0)), (1, .int x5), (2, .int x51), (3, .int x60)] → W p l e (rmm 2 48) s m args below meth c H locs 0 0 Q (F0 m 78 ls [])) ?_ _ _ _ hw (lv_sub hl [1, 2, 3, 0] rfl)
      clear h hw hl
      rintro ⟨x60, S61⟩ h H locs ls hw hl
      refine lv_iload_n hx hb dX6_findLines_78 rfl (lv_at hl 2 rfl) ?_
      refine lv_if_eq (tgt := 147) hx hb dX6_findLines_79 (by decide) (fun c86 => ?_) (fun c86 => ?_)
      · replace h := h.1 c86
        rw [hQ]
        exact mretv (w := (wM g q)) (u := (S61, J)) hC hr hlocks hK hw ⟨rfl, h⟩ dX6_findLines_147
      · replace h := h.2 c86
        refine lv_iload_n hx hb dX6_findLines_82 rfl (lv_at hl 3 rfl) ?_
        refine lv_if_lt (tgt := 147) hx hb dX6_findLines_83 (by decide) (fun c85 => ?_) (fun c85 => ?_)
        · replace h := h.1 c85
          rw [hQ]
          exact mretv (w := (wM g q)) (u := (S61, J)) hC hr hlocks hK hw ⟨rfl, h⟩ dX6_findLines_147
        · replace h := h.2 c85
          refine lv_aload_n hx hb dX6_findLines_86 rfl (lv_at hl 0 rfl) ?_
          refine M_mg15 hC hinX6 hK hw (List.mem_of_getElem? (i := 7) rfl) dX6_findLines_87 ?_
          refine lv_iload_n hx hb dX6_findLines_90 rfl (lv_at hl 3 rfl) ?_
          refine lv_dup2_11 hx hb dX6_findLines_91 rfl rfl ?_
          obtain ⟨hi, h⟩ := h
          refine M_ml15 hC hK hw hi dX6_findLines_92 ?_
          refine lv_iconst (v := (1 : Int32)) hx hb dX6_findLines_93 (by decide) ?_
          refine lv_iadd hx hb dX6_findLines_94 ?_
          obtain ⟨hi, h⟩ := h
          refine M_ms15 hC hK hw hi dX6_findLines_95 (fun S68 H locs eS68 hw => ?_)
          replace h := h S68 eS68
          refine lv_aload_n hx hb dX6_findLines_96 rfl (lv_at hl 0 rfl) ?_
          refine M_mg15 hC hinX6 hK hw (List.mem_of_getElem? (i := 7) rfl) dX6_findLines_97 ?_
          refine lv_iload_n hx hb dX6_findLines_100 rfl (lv_at hl 3 rfl) ?_
          obtain ⟨hi, h⟩ := h
          refine M_ml15 hC hK hw hi dX6_findLines_101 ?_
          refine lv_iload_n hx hb dX6_findLines_102 rfl (lv_at hl 1 rfl) ?_
          refine lv_icmp_ne (tgt := 112) hx hb dX6_findLines_103 (by decide) (fun c84 => ?_) (fun c84 => ?_)
          · replace h := h.2 c84
            refine lv_aload_n hx hb dX6_findLines_112 rfl (lv_at hl 0 rfl) ?_
            refine lv_iload_n hx hb dX6_findLines_113 rfl (lv_at hl 3 rfl) ?_
            refine mcalli (w1 := (wM g q)) (va_runV (As := [.int x60]) (rest := []) hC (kX6_mayStand l g  q H.size S68 J x60 _ h) (cwV 1 hts gX6_findLines_X6_mayStand rfl rfl rfl (by decide +kernel) ⟨Nat.le_of_ble_eq_true rfl, Nat.le_of_ble_eq_true rfl⟩) (mpreV E0_ok hK hE hA hw (Sub1.refl _) 0 rfl rfl) rfl rfl hl.1 rfl (lv_room (Nat.le_of_ble_eq_true rfl)) dX6_findLines_114 ⟨Nat.zero_le _, Nat.zero_le _⟩) hA hw (Sub1.refl _) (fun _ => Sub.whole rfl) (fun r69 u70 H locs h hw => ?_)
            obtain ⟨hu, h⟩ := h
            replace hu := hu.symm
            subst hu
            refine lv_if_eq (tgt := 78) hx hb dX6_findLines_117 (by decide) (fun c81 => ?_) (fun c81 => ?_)
            · replace h := h.1 c81
              exact h _ _ _ hw (lv_sub hl [0, 1, 2, 3] rfl)
            · replace h := h.2 c81
              refine lv_iload_n hx hb dX6_findLines_120 rfl (lv_at hl 3 rfl) ?_
              refine lv_iload_n hx hb dX6_findLines_121 rfl (lv_at hl 1 rfl) ?_
              refine lv_iconst (v := (1 : Int32)) hx hb dX6_findLines_122 (by decide) ?_
              refine lv_isub hx hb dX6_findLines_123 ?_
              refine lv_icmp_ne (tgt := 134) hx hb dX6_findLines_124 (by decide) (fun c80 => ?_) (fun c80 => ?_)
              · replace h := h.2 c80
                obtain ⟨x72, ex72⟩ : ∃ y : Int32, y = x60 + (1 : Int32) := ⟨_, rfl⟩
                refine lv_iinc (v := x72) (lv' := [(3, .int x72), (0, .ref (q 0)), (1, .int x5), (2, .int x51)]) hx hb dX6_findLines_134 hl (k := 3) rfl (by rw [ex72]; rfl) (by decide) rfl (fun ls hl => ?_)
                replace h := h x72 ex72
                refine lv_aload_n hx hb dX6_findLines_137 rfl (lv_at hl 1 rfl) ?_
                refine M_mg15 hC hinX6 hK hw (List.mem_of_getElem? (i := 7) rfl) dX6_findLines_138 ?_
                refine lv_iload_n hx hb dX6_findLines_141 rfl (lv_at hl 0 rfl) ?_
                refine lv_iconst (v := (-1 : Int32)) hx hb dX6_findLines_142 (by decide) ?_
                obtain ⟨hi, h⟩ := h
                refine M_ms15 hC hK hw hi dX6_findLines_143 (fun S73 H locs eS73 hw => ?_)
                replace h := h S73 eS73
                refine lv_goto (tgt := 78) hx hb dX6_findLines_144 (by decide) ?_
                exact h _ _ _ hw (lv_sub hl [1, 2, 3, 0] rfl)
              · replace h := h.1 c80
                refine lv_aload_n hx hb dX6_findLines_127 rfl (lv_at hl 0 rfl) ?_
                refine mcallv (w1 := (wM g q)) (va_runV (As := []) (rest := []) hC (kX6_looks l g  q H.size S68 J  _ h) (cwV 0 hts gX6_findLines_X6_looks rfl rfl rfl (by decide +kernel) ⟨Nat.le_of_ble_eq_true rfl, Nat.le_of_ble_eq_true rfl⟩) (mpreV E0_ok hK hE hA hw (Sub1.refl _) 0 rfl rfl) rfl rfl hl.1 rfl (lv_room (Nat.le_of_ble_eq_true rfl)) dX6_findLines_128 ⟨Nat.zero_le _, Nat.zero_le _⟩) hA hw (Sub1.refl _) (fun _ => Sub.whole rfl) (fun u76 H locs h hw => ?_)
                obtain ⟨S77, J78⟩ := u76
                obtain ⟨hu, h⟩ := h
                replace hu : J = J78 := hu.symm
                subst hu
                refine lv_goto (tgt := 78) hx hb dX6_findLines_131 (by decide) ?_
                exact h _ _ _ hw (lv_sub hl [0, 1, 2, 3] rfl)
          · replace h := h.1 c84
            obtain ⟨x82, ex82⟩ : ∃ y : Int32, y = x60 + (-1 : Int32) := ⟨_, rfl⟩
            refine lv_iinc (v := x82) (lv' := [(3, .int x82), (0, .ref (q 0)), (1, .int x5), (2, .int x51)]) hx hb dX6_findLines_106 hl (k := 3) rfl (by rw [ex82]; rfl) (by decide) rfl (fun ls hl => ?_)
            replace h := h x82 ex82
            refine lv_goto (tgt := 78) hx hb dX6_findLines_109 (by decide) ?_
            exact h _ _ _ hw (lv_sub hl [1, 2, 3, 0] rfl)
    · replace h := h.2 c95
      refine lv_iload_n hx hb dX6_findLines_44 rfl (lv_at hl 2 rfl) ?_
      refine lv_if_eq (tgt := 61) hx hb dX6_findLines_45 (by decide) (fun c94 => ?_) (fun c94 => ?_)
      · replace h := h.1 c94
        refine lv_iconst (v := (0 : Int32)) hx hb dX6_findLines_61 (by decide) ?_
        refine lv_istore_n (lv' := [(2, .int (0 : Int32)), (0, .ref (q 0)), (1, .int x5), (3, .int x52)]) hx hb dX6_findLines_62 rfl hl (by decide) rfl (fun ls hl => ?_)
        obtain ⟨x87, ex87⟩ : ∃ y : Int32, y = x52 + (1 : Int32) := ⟨_, rfl⟩
        refine lv_iinc (v := x87) (lv' := [(3, .int x87), (2, .int (0 : Int32)), (0, .ref (q 0)), (1, .int x5)]) hx hb dX6_findLines_63 hl (k := 3) rfl (by rw [ex87]; rfl) (by decide) rfl (fun ls hl => ?_)
        replace h := h x87 ex87
        refine lv_goto (tgt := 39) hx hb dX6_findLines_66 (by decide) ?_
        exact h _ _ _ hw (lv_sub hl [2, 3, 1, 0] rfl)
      · replace h := h.2 c94
        refine lv_aload_n hx hb dX6_findLines_48 rfl (lv_at hl 0 rfl) ?_
        refine M_mg14 hC hinX6 hK hw (List.mem_of_getElem? (i := 6) rfl) dX6_findLines_49 ?_
        refine lv_iload_n hx hb dX6_findLines_52 rfl (lv_at hl 3 rfl) ?_
        obtain ⟨hi, h⟩ := h
        refine M_ml14 hC hK hw hi dX6_findLines_53 ?_
        refine lv_if_lt (tgt := 61) hx hb dX6_findLines_54 (by decide) (fun c93 => ?_) (fun c93 => ?_)
        · replace h := h.1 c93
          refine lv_iconst (v := (0 : Int32)) hx hb dX6_findLines_61 (by decide) ?_
          refine lv_istore_n (lv' := [(2, .int (0 : Int32)), (0, .ref (q 0)), (1, .int x5), (3, .int x52)]) hx hb dX6_findLines_62 rfl hl (by decide) rfl (fun ls hl => ?_)
          obtain ⟨x89, ex89⟩ : ∃ y : Int32, y = x52 + (1 : Int32) := ⟨_, rfl⟩
          refine lv_iinc (v := x89) (lv' := [(3, .int x89), (2, .int (0 : Int32)), (0, .ref (q 0)), (1, .int x5)]) hx hb dX6_findLines_63 hl (k := 3) rfl (by rw [ex89]; rfl) (by decide) rfl (fun ls hl => ?_)
          replace h := h x89 ex89
          refine lv_goto (tgt := 39) hx hb dX6_findLines_66 (by decide) ?_
          exact h _ _ _ hw (lv_sub hl [2, 3, 1, 0] rfl)
        · replace h := h.2 c93
          refine lv_iconst (v := (1 : Int32)) hx hb dX6_findLines_57 (by decide) ?_
          refine lv_goto (tgt := 62) hx hb dX6_findLines_58 (by decide) ?_
          refine lv_istore_n (lv' := [(2, .int (1 : Int32)), (0, .ref (q 0)), (1, .int x5), (3, .int x52)]) hx hb dX6_findLines_62 rfl hl (by decide) rfl (fun ls hl => ?_)
          obtain ⟨x91, ex91⟩ : ∃ y : Int32, y = x52 + (1 : Int32) := ⟨_, rfl⟩
          refine lv_iinc (v := x91) (lv' := [(3, .int x91), (2, .int (1 : Int32)), (0, .ref (q 0)), (1, .int x5)]) hx hb dX6_findLines_63 hl (k := 3) rfl (by rw [ex91]; rfl) (by decide) rfl (fun ls hl => ?_)
          replace h := h x91 ex91
          refine lv_goto (tgt := 39) hx hb dX6_findLines_66 (by decide) ?_
          exact h _ _ _ hw (lv_sub hl [2, 3, 1, 0] rfl)
def wX6_lines (S : Bun) (J : Lon) (a1 : Int32) (post : Int32 → Bun → Prop) : Prop :=
  wX6_isTeam S J a1 (fun r1 => ((r1 = 0 → wX6_finds S J (-1000000001 : Int32) (fun r11 S13 => post r11 S13)) ∧ (¬ (r1 = 0) → wX6_findCosts S J a1 (fun S5 => wX6_findLines S5 J  (fun S9 => post (S9 0 19) S9)))))
set_option maxRecDepth 100000 in
set_option maxHeartbeats 4000000 in
theorem kX6_lines (l : Launch) (g : Gl)  (q : Nat → Nat) (sz : Nat) (S : Bun) (J : Lon) (a1 : Int32) (post : Int32 → Bun → Prop) (h : wX6_lines S J a1 post) : Met l yX6_lines wsX6_lines (rmm 7 172) (wPc g E0 ((wM g q) (S, J)) sz [.ref (q 0), .int a1]) (va_Qi (fun (r : Int32) (u : Bun × Lon) => u.2 = J ∧ post r u.1) (wB g (wM g q) (va_A ((wM g q) (S, J)) sz)) (va_A ((wM g q) (S, J)) sz)) 0 0 (va_A ((wM g q) (S, J)) sz) := by
  refine mstart (Qf := fun A => va_Qi (fun (r : Int32) (u : Bun × Lon) => u.2 = J ∧ post r u.1) (wB g (wM g q) A) A) (by decide) rfl (Nat.le_of_ble_eq_true rfl) ?_
  intro p e s m args below meth c A Q H locs ls hC hr hlocks hname hQ hA hK hE hw hl
  have hC : CallFix p m c cX6_lines 2 s args wsX6_lines RX6 := hC
  obtain ⟨hx, hb, -, hown, hts⟩ := id hC
  have hl : lv_has ls 2 [(0, .ref (q 0)), (1, .int a1)] := hl
  rw [wX6_lines] at h
  have hinX6 : ∀ w ∈ wsX60, w ∈ wsX6_lines := fun w hw9 => List.mem_cons_of_mem _ (List.mem_append_right _ hw9)
  refine lv_aload_n hx hb dX6_lines_0 rfl (lv_at hl 0 rfl) ?_
  refine lv_iload_n hx hb dX6_lines_1 rfl (lv_at hl 1 rfl) ?_
  refine mcalli (w1 := (wM g q)) (va_runV (As := [.int a1]) (rest := []) hC (kX6_isTeam l g  q H.size S J a1 _ h) (cwV 1 hts gX6_lines_X6_isTeam rfl rfl rfl (by decide +kernel) ⟨Nat.le_of_ble_eq_true rfl, Nat.le_of_ble_eq_true rfl⟩) (mpreV E0_ok hK hE hA hw (Sub1.refl _) 0 rfl rfl) rfl rfl hl.1 rfl (lv_room (Nat.le_of_ble_eq_true rfl)) dX6_lines_2 ⟨Nat.zero_le _, Nat.zero_le _⟩) hA hw (Sub1.refl _) (fun _ => Sub.whole rfl) (fun r1 u2 H locs h hw => ?_)
  obtain ⟨hu, h⟩ := h
  replace hu := hu.symm
  subst hu
  refine lv_if_ne (tgt := 15) hx hb dX6_lines_5 (by decide) (fun c15 => ?_) (fun c15 => ?_)
  · replace h := h.2 c15
    refine lv_aload_n hx hb dX6_lines_15 rfl (lv_at hl 0 rfl) ?_
    refine lv_iload_n hx hb dX6_lines_16 rfl (lv_at hl 1 rfl) ?_
    refine mcallv (w1 := (wM g q)) (va_runV (As := [.int a1]) (rest := []) hC (kX6_findCosts l g  q H.size S J a1 _ h) (cwV 1 hts gX6_lines_X6_findCosts rfl rfl rfl (by decide +kernel) ⟨Nat.le_of_ble_eq_true rfl, Nat.le_of_ble_eq_true rfl⟩) (mpreV E0_ok hK hE hA hw (Sub1.refl _) 0 rfl rfl) rfl rfl hl.1 rfl (lv_room (Nat.le_of_ble_eq_true rfl)) dX6_lines_17 ⟨Nat.zero_le _, Nat.zero_le _⟩) hA hw (Sub1.refl _) (fun _ => Sub.whole rfl) (fun u4 H locs h hw => ?_)
    obtain ⟨S5, J6⟩ := u4
    obtain ⟨hu, h⟩ := h
    replace hu : J = J6 := hu.symm
    subst hu
    refine lv_aload_n hx hb dX6_lines_20 rfl (lv_at hl 0 rfl) ?_
    refine mcallv (w1 := (wM g q)) (va_runV (As := []) (rest := []) hC (kX6_findLines l g  q H.size S5 J  _ h) (cwV 0 hts gX6_lines_X6_findLines rfl rfl rfl (by decide +kernel) ⟨Nat.le_of_ble_eq_true rfl, Nat.le_of_ble_eq_true rfl⟩) (mpreV E0_ok hK hE hA hw (Sub1.refl _) 0 rfl rfl) rfl rfl hl.1 rfl (lv_room (Nat.le_of_ble_eq_true rfl)) dX6_lines_21 ⟨Nat.zero_le _, Nat.zero_le _⟩) hA hw (Sub1.refl _) (fun _ => Sub.whole rfl) (fun u8 H locs h hw => ?_)
    obtain ⟨S9, J10⟩ := u8
    obtain ⟨hu, h⟩ := h
    replace hu : J = J10 := hu.symm
    subst hu
    refine lv_aload_n hx hb dX6_lines_24 rfl (lv_at hl 0 rfl) ?_
    refine M_mg19 hC hinX6 hK hw (List.mem_of_getElem? (i := 2) rfl) dX6_lines_25 ?_
    rw [hQ]
    exact mreti (w := (wM g q)) (u := (S9, J)) hC hr hlocks hK hw ⟨rfl, h⟩ dX6_lines_28
  · replace h := h.1 c15
    refine lv_aload_n hx hb dX6_lines_8 rfl (lv_at hl 0 rfl) ?_
    refine lv_ldc (v := (-1000000001 : Int32)) hx hb hown (hts (.constant RX6 68 (-1000000001)) (List.mem_of_getElem? (i := 1) rfl)) dX6_lines_9 ?_
    refine mcalli (w1 := (wM g q)) (va_runV (As := [.int (-1000000001 : Int32)]) (rest := []) hC (kX6_finds l g  q H.size S J (-1000000001 : Int32) _ h) (cwV 1 hts gX6_lines_X6_finds rfl rfl rfl (by decide +kernel) ⟨Nat.le_of_ble_eq_true rfl, Nat.le_of_ble_eq_true rfl⟩) (mpreV E0_ok hK hE hA hw (Sub1.refl _) 0 rfl rfl) rfl rfl hl.1 rfl (lv_room (Nat.le_of_ble_eq_true rfl)) dX6_lines_11 ⟨Nat.zero_le _, Nat.zero_le _⟩) hA hw (Sub1.refl _) (fun _ => Sub.whole rfl) (fun r11 u12 H locs h hw => ?_)
    obtain ⟨S13, J14⟩ := u12
    obtain ⟨hu, h⟩ := h
    replace hu : J = J14 := hu.symm
    subst hu
    rw [hQ]
    exact mreti (w := (wM g q)) (u := (S13, J)) hC hr hlocks hK hw ⟨rfl, h⟩ dX6_lines_14
def wX6_late (S : Bun) (J : Lon) (a1 : Int32) (a2 : Int32) (post : Int32 → Bun → Prop) : Prop :=
  wX6_isTeam S J a1 (fun r1 => wjoin (σ := Unit) (fun _ => wX6_finds S J (-1000000001 : Int32) (fun r6 S8 => post r6 S8)) (fun J3 => ((r1 = 0 → J3 ()) ∧ (¬ (r1 = 0) → wX6_in a2.toInt64 (-2 : Int64) (5 : Int64) (fun r10 => ((r10 = 0 → J3 ()) ∧ (¬ (r10 = 0) → wX6_findCosts S J a1 (fun S14 => wX6_findLines S14 J  (fun S18 => wjoin (σ := Unit) (fun _ => wX6_finds S18 J (-1000000004 : Int32) (fun r23 S25 => post r23 S25)) (fun J20 => (((S18 0 20) < 0 → J20 ()) ∧ (¬ ((S18 0 20) < 0) → vp_in (0 : Int32) 56 ∧ ((a2 < (S18 1 (0 : Int32).toNatClampNeg) → ((a2 = (-1 : Int32) → post (S18 0 20) S18) ∧ (¬ (a2 = (-1 : Int32)) → ((a2 = (-2 : Int32) → post (S18 0 21) S18) ∧ (¬ (a2 = (-2 : Int32)) → vp_in a2 6 ∧ post (S18 18 a2.toNatClampNeg) S18))))) ∧ (¬ (a2 < (S18 1 (0 : Int32).toNatClampNeg)) → J20 ()))))))))))))))
set_option maxRecDepth 100000 in
set_option maxHeartbeats 4000000 in
theorem kX6_late (l : Launch) (g : Gl)  (q : Nat → Nat) (sz : Nat) (S : Bun) (J : Lon) (a1 : Int32) (a2 : Int32) (post : Int32 → Bun → Prop) (h : wX6_late S J a1 a2 post) : Met l yX6_late wsX6_late (rmm 7 172) (wPc g E0 ((wM g q) (S, J)) sz [.ref (q 0), .int a1, .int a2]) (va_Qi (fun (r : Int32) (u : Bun × Lon) => u.2 = J ∧ post r u.1) (wB g (wM g q) (va_A ((wM g q) (S, J)) sz)) (va_A ((wM g q) (S, J)) sz)) 0 0 (va_A ((wM g q) (S, J)) sz) := by
  refine mstart (Qf := fun A => va_Qi (fun (r : Int32) (u : Bun × Lon) => u.2 = J ∧ post r u.1) (wB g (wM g q) A) A) (by decide) rfl (Nat.le_of_ble_eq_true rfl) ?_
  intro p e s m args below meth c A Q H locs ls hC hr hlocks hname hQ hA hK hE hw hl
  have hC : CallFix p m c cX6_late 3 s args wsX6_late RX6 := hC
  obtain ⟨hx, hb, -, hown, hts⟩ := id hC
  have hl : lv_has ls 3 [(0, .ref (q 0)), (1, .int a1), (2, .int a2)] := hl
  rw [wX6_late] at h
  have hinX6 : ∀ w ∈ wsX60, w ∈ wsX6_late := fun w hw9 => List.mem_cons_of_mem _ (List.mem_append_right _ hw9)
  refine lv_aload_n hx hb dX6_late_0 rfl (lv_at hl 0 rfl) ?_
  refine lv_iload_n hx hb dX6_late_1 rfl (lv_at hl 1 rfl) ?_
  refine mcalli (w1 := (wM g q)) (va_runV (As := [.int a1]) (rest := []) hC (kX6_isTeam l g  q H.size S J a1 _ h) (cwV 1 hts gX6_late_X6_isTeam rfl rfl rfl (by decide +kernel) ⟨Nat.le_of_ble_eq_true rfl, Nat.le_of_ble_eq_true rfl⟩) (mpreV E0_ok hK hE hA hw (Sub1.refl _) 0 rfl rfl) rfl rfl hl.1 rfl (lv_room (Nat.le_of_ble_eq_true rfl)) dX6_late_2 ⟨Nat.zero_le _, Nat.zero_le _⟩) hA hw (Sub1.refl _) (fun _ => Sub.whole rfl) (fun r1 u2 H locs h hw => ?_)
  obtain ⟨hu, h⟩ := h
  replace hu := hu.symm
  subst hu
  obtain ⟨J3, hJ4, h⟩ := h
  have join5 : ∀  (H : Heap) (locs : List Loc) (ls : Array Slot), J3 () → Wd g.1 A s.heap ((wM g q) (S, J)) H locs → lv_has ls 3 [(0, .ref (q 0))] → W p l e (rmm 7 172) s m args below meth c H locs 0 0 Q (F0 m 22 ls []) := by
    intro  H locs ls h hw hl
    replace h := hJ4 () h
    refine lv_aload_n hx hb dX6_late_22 rfl (lv_at hl 0 rfl) ?_
    refine lv_ldc (v := (-1000000001 : Int32)) hx hb hown (hts (.constant RX6 68 (-1000000001)) (List.mem_of_getElem? (i := 3) rfl)) dX6_late_23 ?_
    refine mcalli (w1 := (wM g q)) (va_runV (As := [.int (-1000000001 : Int32)]) (rest := []) hC (kX6_finds l g  q H.size S J (-1000000001 : Int32) _ h) (cwV 1 hts gX6_late_X6_finds rfl rfl rfl (by decide +kernel) ⟨Nat.le_of_ble_eq_true rfl, Nat.le_of_ble_eq_true rfl⟩) (mpreV E0_ok hK hE hA hw (Sub1.refl _) 0 rfl rfl) rfl rfl hl.1 rfl (lv_room (Nat.le_of_ble_eq_true rfl)) dX6_late_25 ⟨Nat.zero_le _, Nat.zero_le _⟩) hA hw (Sub1.refl _) (fun _ => Sub.whole rfl) (fun r6 u7 H locs h hw => ?_)
    obtain ⟨S8, J9⟩ := u7
    obtain ⟨hu, h⟩ := h
    replace hu : J = J9 := hu.symm
    subst hu
    rw [hQ]
    exact mreti (w := (wM g q)) (u := (S8, J)) hC hr hlocks hK hw ⟨rfl, h⟩ dX6_late_28
  refine lv_if_eq (tgt := 22) hx hb dX6_late_5 (by decide) (fun c32 => ?_) (fun c32 => ?_)
  · replace h := h.1 c32
    exact join5  _ _ _ h hw (lv_sub hl [0] rfl)
  · replace h := h.2 c32
    refine lv_iload_n hx hb dX6_late_8 rfl (lv_at hl 2 rfl) ?_
    refine lv_i2l (v := a2.toInt64) hx hb dX6_late_9 rfl ?_
    refine lv_ldc2 (v := (-2 : Int64)) hx hb hown (hts (.constantLong RX6 183 (-2)) (List.mem_of_getElem? (i := 1) rfl)) dX6_late_10 ?_
    refine lv_ldc2 (v := (5 : Int64)) hx hb hown (hts (.constantLong RX6 106 (5)) (List.mem_of_getElem? (i := 2) rfl)) dX6_late_13 ?_
    refine mcalli (w1 := (fun _ => (wM g q) (S, J))) (wc := fun _ : Unit => ([] : va_W)) (u := ()) (va_runS (As := [.long a2.toInt64, .long (-2 : Int64), .long (5 : Int64)]) (rest := []) hC (kX6_in l g  H.size a2.toInt64 (-2 : Int64) (5 : Int64) _ h) (va_cwS 3 hts gX6_late_X6_in rfl rfl rfl (by decide +kernel) ⟨Nat.le_of_ble_eq_true rfl, Nat.le_of_ble_eq_true rfl⟩) (mpre E0_ok hK hE hA hw (Sub1.nil _)) rfl rfl hl.1 rfl (lv_room (Nat.le_of_ble_eq_true rfl)) dX6_late_16 ⟨Nat.zero_le _, Nat.zero_le _⟩) hA hw (Sub1.nil _) (fun _ => Sub.nil _) (fun r10 u11 H locs h hw => ?_)
    obtain ⟨_, h⟩ := h
    refine lv_if_ne (tgt := 29) hx hb dX6_late_19 (by decide) (fun c31 => ?_) (fun c31 => ?_)
    · replace h := h.2 c31
      refine lv_aload_n hx hb dX6_late_29 rfl (lv_at hl 0 rfl) ?_
      refine lv_iload_n hx hb dX6_late_30 rfl (lv_at hl 1 rfl) ?_
      refine mcallv (w1 := (wM g q)) (va_runV (As := [.int a1]) (rest := []) hC (kX6_findCosts l g  q H.size S J a1 _ h) (cwV 1 hts gX6_late_X6_findCosts rfl rfl rfl (by decide +kernel) ⟨Nat.le_of_ble_eq_true rfl, Nat.le_of_ble_eq_true rfl⟩) (mpreV E0_ok hK hE hA hw (Sub1.refl _) 0 rfl rfl) rfl rfl hl.1 rfl (lv_room (Nat.le_of_ble_eq_true rfl)) dX6_late_31 ⟨Nat.zero_le _, Nat.zero_le _⟩) hA hw (Sub1.refl _) (fun _ => Sub.whole rfl) (fun u13 H locs h hw => ?_)
      obtain ⟨S14, J15⟩ := u13
      obtain ⟨hu, h⟩ := h
      replace hu : J = J15 := hu.symm
      subst hu
      refine lv_aload_n hx hb dX6_late_34 rfl (lv_at hl 0 rfl) ?_
      refine mcallv (w1 := (wM g q)) (va_runV (As := []) (rest := []) hC (kX6_findLines l g  q H.size S14 J  _ h) (cwV 0 hts gX6_late_X6_findLines rfl rfl rfl (by decide +kernel) ⟨Nat.le_of_ble_eq_true rfl, Nat.le_of_ble_eq_true rfl⟩) (mpreV E0_ok hK hE hA hw (Sub1.refl _) 0 rfl rfl) rfl rfl hl.1 rfl (lv_room (Nat.le_of_ble_eq_true rfl)) dX6_late_35 ⟨Nat.zero_le _, Nat.zero_le _⟩) hA hw (Sub1.refl _) (fun _ => Sub.whole rfl) (fun u17 H locs h hw => ?_)
      obtain ⟨S18, J19⟩ := u17
      obtain ⟨hu, h⟩ := h
      replace hu : J = J19 := hu.symm
      subst hu
      refine lv_aload_n hx hb dX6_late_38 rfl (lv_at hl 0 rfl) ?_
      refine M_mg20 hC hinX6 hK hw (List.mem_of_getElem? (i := 4) rfl) dX6_late_39 ?_
      obtain ⟨J20, hJ21, h⟩ := h
      have join22 : ∀  (H : Heap) (locs : List Loc) (ls : Array Slot), J20 () → Wd g.1 A s.heap ((wM g q) (S18, J)) H locs → lv_has ls 3 [(0, .ref (q 0))] → W p l e (rmm 7 172) s m args below meth c H locs 0 0 Q (F0 m 55 ls []) := by
        intro  H locs ls h hw hl
        replace h := hJ21 () h
        refine lv_aload_n hx hb dX6_late_55 rfl (lv_at hl 0 rfl) ?_
        refine lv_ldc (v := (-1000000004 : Int32)) hx hb hown (hts (.constant RX6 188 (-1000000004)) (List.mem_of_getElem? (i := 6) rfl)) dX6_late_56 ?_
        refine mcalli (w1 := (wM g q)) (va_runV (As := [.int (-1000000004 : Int32)]) (rest := []) hC (kX6_finds l g  q H.size S18 J (-1000000004 : Int32) _ h) (cwV 1 hts gX6_late_X6_finds rfl rfl rfl (by decide +kernel) ⟨Nat.le_of_ble_eq_true rfl, Nat.le_of_ble_eq_true rfl⟩) (mpreV E0_ok hK hE hA hw (Sub1.refl _) 0 rfl rfl) rfl rfl hl.1 rfl (lv_room (Nat.le_of_ble_eq_true rfl)) dX6_late_58 ⟨Nat.zero_le _, Nat.zero_le _⟩) hA hw (Sub1.refl _) (fun _ => Sub.whole rfl) (fun r23 u24 H locs h hw => ?_)
        obtain ⟨S25, J26⟩ := u24
        obtain ⟨hu, h⟩ := h
        replace hu : J = J26 := hu.symm
        subst hu
        rw [hQ]
        exact mreti (w := (wM g q)) (u := (S25, J)) hC hr hlocks hK hw ⟨rfl, h⟩ dX6_late_61
      refine lv_if_lt (tgt := 55) hx hb dX6_late_42 (by decide) (fun c30 => ?_) (fun c30 => ?_)
      · replace h := h.1 c30
        exact join22  _ _ _ h hw (lv_sub hl [0] rfl)
      · replace h := h.2 c30
        refine lv_iload_n hx hb dX6_late_45 rfl (lv_at hl 2 rfl) ?_
        refine lv_aload_n hx hb dX6_late_46 rfl (lv_at hl 0 rfl) ?_
        refine M_mg0 hC hinX6 hK hw (List.mem_of_getElem? (i := 5) rfl) dX6_late_47 ?_
        refine lv_iconst (v := (0 : Int32)) hx hb dX6_late_50 (by decide) ?_
        obtain ⟨hi, h⟩ := h
        refine M_ml0 hC hK hw hi dX6_late_51 ?_
        refine lv_icmp_lt (tgt := 62) hx hb dX6_late_52 (by decide) (fun c29 => ?_) (fun c29 => ?_)
        · replace h := h.1 c29
          refine lv_iload_n hx hb dX6_late_62 rfl (lv_at hl 2 rfl) ?_
          refine lv_iconst (v := (-1 : Int32)) hx hb dX6_late_63 (by decide) ?_
          refine lv_icmp_ne (tgt := 74) hx hb dX6_late_64 (by decide) (fun c28 => ?_) (fun c28 => ?_)
          · replace h := h.2 c28
            refine lv_iload_n hx hb dX6_late_74 rfl (lv_at hl 2 rfl) ?_
            refine lv_bipush (v := (-2 : Int32)) hx hb dX6_late_75 (by decide) ?_
            refine lv_icmp_ne (tgt := 87) hx hb dX6_late_77 (by decide) (fun c27 => ?_) (fun c27 => ?_)
            · replace h := h.2 c27
              refine lv_aload_n hx hb dX6_late_87 rfl (lv_at hl 0 rfl) ?_
              refine M_mg17 hC hinX6 hK hw (List.mem_of_getElem? (i := 8) rfl) dX6_late_88 ?_
              refine lv_iload_n hx hb dX6_late_91 rfl (lv_at hl 2 rfl) ?_
              obtain ⟨hi, h⟩ := h
              refine M_ml17 hC hK hw hi dX6_late_92 ?_
              rw [hQ]
              exact mreti (w := (wM g q)) (u := (S18, J)) hC hr hlocks hK hw ⟨rfl, h⟩ dX6_late_93
            · replace h := h.1 c27
              refine lv_aload_n hx hb dX6_late_80 rfl (lv_at hl 0 rfl) ?_
              refine M_mg21 hC hinX6 hK hw (List.mem_of_getElem? (i := 7) rfl) dX6_late_81 ?_
              refine lv_goto (tgt := 93) hx hb dX6_late_84 (by decide) ?_
              rw [hQ]
              exact mreti (w := (wM g q)) (u := (S18, J)) hC hr hlocks hK hw ⟨rfl, h⟩ dX6_late_93
          · replace h := h.1 c28
            refine lv_aload_n hx hb dX6_late_67 rfl (lv_at hl 0 rfl) ?_
            refine M_mg20 hC hinX6 hK hw (List.mem_of_getElem? (i := 4) rfl) dX6_late_68 ?_
            refine lv_goto (tgt := 93) hx hb dX6_late_71 (by decide) ?_
            rw [hQ]
            exact mreti (w := (wM g q)) (u := (S18, J)) hC hr hlocks hK hw ⟨rfl, h⟩ dX6_late_93
        · replace h := h.2 c29
          exact join22  _ _ _ h hw (lv_sub hl [0] rfl)
    · replace h := h.1 c31
      exact join5  _ _ _ h hw (lv_sub hl [0] rfl)
def wX6_done (S : Bun) (J : Lon) (a1 : Int32) (a2 : Int32) (post : Int32 → Bun → Prop) : Prop :=
  wX6_isTeam S J a1 (fun r1 => wjoin (σ := Unit) (fun _ => wX6_finds S J (-1000000001 : Int32) (fun r6 S8 => post r6 S8)) (fun J3 => ((r1 = 0 → J3 ()) ∧ (¬ (r1 = 0) → wX6_isField S J a2 (fun r10 => ((r10 = 0 → J3 ()) ∧ (¬ (r10 = 0) → wX6_findCosts S J a1 (fun S14 => wX6_findLines S14 J  (fun S18 => ((0 ≤ (S18 0 20) → vp_in a2 6 ∧ post (S18 19 a2.toNatClampNeg) S18) ∧ (¬ (0 ≤ (S18 0 20)) → wX6_finds S18 J (-1000000004 : Int32) (fun r20 S22 => post r20 S22))))))))))))
set_option maxRecDepth 100000 in
set_option maxHeartbeats 4000000 in
theorem kX6_done (l : Launch) (g : Gl)  (q : Nat → Nat) (sz : Nat) (S : Bun) (J : Lon) (a1 : Int32) (a2 : Int32) (post : Int32 → Bun → Prop) (h : wX6_done S J a1 a2 post) : Met l yX6_done wsX6_done (rmm 7 172) (wPc g E0 ((wM g q) (S, J)) sz [.ref (q 0), .int a1, .int a2]) (va_Qi (fun (r : Int32) (u : Bun × Lon) => u.2 = J ∧ post r u.1) (wB g (wM g q) (va_A ((wM g q) (S, J)) sz)) (va_A ((wM g q) (S, J)) sz)) 0 0 (va_A ((wM g q) (S, J)) sz) := by
  refine mstart (Qf := fun A => va_Qi (fun (r : Int32) (u : Bun × Lon) => u.2 = J ∧ post r u.1) (wB g (wM g q) A) A) (by decide) rfl (Nat.le_of_ble_eq_true rfl) ?_
  intro p e s m args below meth c A Q H locs ls hC hr hlocks hname hQ hA hK hE hw hl
  have hC : CallFix p m c cX6_done 3 s args wsX6_done RX6 := hC
  obtain ⟨hx, hb, -, hown, hts⟩ := id hC
  have hl : lv_has ls 3 [(0, .ref (q 0)), (1, .int a1), (2, .int a2)] := hl
  rw [wX6_done] at h
  have hinX6 : ∀ w ∈ wsX60, w ∈ wsX6_done := fun w hw9 => List.mem_cons_of_mem _ (List.mem_append_right _ hw9)
  refine lv_aload_n hx hb dX6_done_0 rfl (lv_at hl 0 rfl) ?_
  refine lv_iload_n hx hb dX6_done_1 rfl (lv_at hl 1 rfl) ?_
  refine mcalli (w1 := (wM g q)) (va_runV (As := [.int a1]) (rest := []) hC (kX6_isTeam l g  q H.size S J a1 _ h) (cwV 1 hts gX6_done_X6_isTeam rfl rfl rfl (by decide +kernel) ⟨Nat.le_of_ble_eq_true rfl, Nat.le_of_ble_eq_true rfl⟩) (mpreV E0_ok hK hE hA hw (Sub1.refl _) 0 rfl rfl) rfl rfl hl.1 rfl (lv_room (Nat.le_of_ble_eq_true rfl)) dX6_done_2 ⟨Nat.zero_le _, Nat.zero_le _⟩) hA hw (Sub1.refl _) (fun _ => Sub.whole rfl) (fun r1 u2 H locs h hw => ?_)
  obtain ⟨hu, h⟩ := h
  replace hu := hu.symm
  subst hu
  obtain ⟨J3, hJ4, h⟩ := h
  have join5 : ∀  (H : Heap) (locs : List Loc) (ls : Array Slot), J3 () → Wd g.1 A s.heap ((wM g q) (S, J)) H locs → lv_has ls 3 [(0, .ref (q 0))] → W p l e (rmm 7 172) s m args below meth c H locs 0 0 Q (F0 m 16 ls []) := by
    intro  H locs ls h hw hl
    replace h := hJ4 () h
    refine lv_aload_n hx hb dX6_done_16 rfl (lv_at hl 0 rfl) ?_
    refine lv_ldc (v := (-1000000001 : Int32)) hx hb hown (hts (.constant RX6 68 (-1000000001)) (List.mem_of_getElem? (i := 1) rfl)) dX6_done_17 ?_
    refine mcalli (w1 := (wM g q)) (va_runV (As := [.int (-1000000001 : Int32)]) (rest := []) hC (kX6_finds l g  q H.size S J (-1000000001 : Int32) _ h) (cwV 1 hts gX6_done_X6_finds rfl rfl rfl (by decide +kernel) ⟨Nat.le_of_ble_eq_true rfl, Nat.le_of_ble_eq_true rfl⟩) (mpreV E0_ok hK hE hA hw (Sub1.refl _) 0 rfl rfl) rfl rfl hl.1 rfl (lv_room (Nat.le_of_ble_eq_true rfl)) dX6_done_19 ⟨Nat.zero_le _, Nat.zero_le _⟩) hA hw (Sub1.refl _) (fun _ => Sub.whole rfl) (fun r6 u7 H locs h hw => ?_)
    obtain ⟨S8, J9⟩ := u7
    obtain ⟨hu, h⟩ := h
    replace hu : J = J9 := hu.symm
    subst hu
    rw [hQ]
    exact mreti (w := (wM g q)) (u := (S8, J)) hC hr hlocks hK hw ⟨rfl, h⟩ dX6_done_22
  refine lv_if_eq (tgt := 16) hx hb dX6_done_5 (by decide) (fun c26 => ?_) (fun c26 => ?_)
  · replace h := h.1 c26
    exact join5  _ _ _ h hw (lv_sub hl [0] rfl)
  · replace h := h.2 c26
    refine lv_aload_n hx hb dX6_done_8 rfl (lv_at hl 0 rfl) ?_
    refine lv_iload_n hx hb dX6_done_9 rfl (lv_at hl 2 rfl) ?_
    refine mcalli (w1 := (wM g q)) (va_runV (As := [.int a2]) (rest := []) hC (kX6_isField l g  q H.size S J a2 _ h) (cwV 1 hts gX6_done_X6_isField rfl rfl rfl (by decide +kernel) ⟨Nat.le_of_ble_eq_true rfl, Nat.le_of_ble_eq_true rfl⟩) (mpreV E0_ok hK hE hA hw (Sub1.refl _) 0 rfl rfl) rfl rfl hl.1 rfl (lv_room (Nat.le_of_ble_eq_true rfl)) dX6_done_10 ⟨Nat.zero_le _, Nat.zero_le _⟩) hA hw (Sub1.refl _) (fun _ => Sub.whole rfl) (fun r10 u11 H locs h hw => ?_)
    obtain ⟨hu, h⟩ := h
    replace hu := hu.symm
    subst hu
    refine lv_if_ne (tgt := 23) hx hb dX6_done_13 (by decide) (fun c25 => ?_) (fun c25 => ?_)
    · replace h := h.2 c25
      refine lv_aload_n hx hb dX6_done_23 rfl (lv_at hl 0 rfl) ?_
      refine lv_iload_n hx hb dX6_done_24 rfl (lv_at hl 1 rfl) ?_
      refine mcallv (w1 := (wM g q)) (va_runV (As := [.int a1]) (rest := []) hC (kX6_findCosts l g  q H.size S J a1 _ h) (cwV 1 hts gX6_done_X6_findCosts rfl rfl rfl (by decide +kernel) ⟨Nat.le_of_ble_eq_true rfl, Nat.le_of_ble_eq_true rfl⟩) (mpreV E0_ok hK hE hA hw (Sub1.refl _) 0 rfl rfl) rfl rfl hl.1 rfl (lv_room (Nat.le_of_ble_eq_true rfl)) dX6_done_25 ⟨Nat.zero_le _, Nat.zero_le _⟩) hA hw (Sub1.refl _) (fun _ => Sub.whole rfl) (fun u13 H locs h hw => ?_)
      obtain ⟨S14, J15⟩ := u13
      obtain ⟨hu, h⟩ := h
      replace hu : J = J15 := hu.symm
      subst hu
      refine lv_aload_n hx hb dX6_done_28 rfl (lv_at hl 0 rfl) ?_
      refine mcallv (w1 := (wM g q)) (va_runV (As := []) (rest := []) hC (kX6_findLines l g  q H.size S14 J  _ h) (cwV 0 hts gX6_done_X6_findLines rfl rfl rfl (by decide +kernel) ⟨Nat.le_of_ble_eq_true rfl, Nat.le_of_ble_eq_true rfl⟩) (mpreV E0_ok hK hE hA hw (Sub1.refl _) 0 rfl rfl) rfl rfl hl.1 rfl (lv_room (Nat.le_of_ble_eq_true rfl)) dX6_done_29 ⟨Nat.zero_le _, Nat.zero_le _⟩) hA hw (Sub1.refl _) (fun _ => Sub.whole rfl) (fun u17 H locs h hw => ?_)
      obtain ⟨S18, J19⟩ := u17
      obtain ⟨hu, h⟩ := h
      replace hu : J = J19 := hu.symm
      subst hu
      refine lv_aload_n hx hb dX6_done_32 rfl (lv_at hl 0 rfl) ?_
      refine M_mg20 hC hinX6 hK hw (List.mem_of_getElem? (i := 2) rfl) dX6_done_33 ?_
      refine lv_if_ge (tgt := 48) hx hb dX6_done_36 (by decide) (fun c24 => ?_) (fun c24 => ?_)
      · replace h := h.1 c24
        refine lv_aload_n hx hb dX6_done_48 rfl (lv_at hl 0 rfl) ?_
        refine M_mg18 hC hinX6 hK hw (List.mem_of_getElem? (i := 4) rfl) dX6_done_49 ?_
        refine lv_iload_n hx hb dX6_done_52 rfl (lv_at hl 2 rfl) ?_
        obtain ⟨hi, h⟩ := h
        refine M_ml18 hC hK hw hi dX6_done_53 ?_
        rw [hQ]
        exact mreti (w := (wM g q)) (u := (S18, J)) hC hr hlocks hK hw ⟨rfl, h⟩ dX6_done_54
      · replace h := h.2 c24
        refine lv_aload_n hx hb dX6_done_39 rfl (lv_at hl 0 rfl) ?_
        refine lv_ldc (v := (-1000000004 : Int32)) hx hb hown (hts (.constant RX6 188 (-1000000004)) (List.mem_of_getElem? (i := 3) rfl)) dX6_done_40 ?_
        refine mcalli (w1 := (wM g q)) (va_runV (As := [.int (-1000000004 : Int32)]) (rest := []) hC (kX6_finds l g  q H.size S18 J (-1000000004 : Int32) _ h) (cwV 1 hts gX6_done_X6_finds rfl rfl rfl (by decide +kernel) ⟨Nat.le_of_ble_eq_true rfl, Nat.le_of_ble_eq_true rfl⟩) (mpreV E0_ok hK hE hA hw (Sub1.refl _) 0 rfl rfl) rfl rfl hl.1 rfl (lv_room (Nat.le_of_ble_eq_true rfl)) dX6_done_42 ⟨Nat.zero_le _, Nat.zero_le _⟩) hA hw (Sub1.refl _) (fun _ => Sub.whole rfl) (fun r20 u21 H locs h hw => ?_)
        obtain ⟨S22, J23⟩ := u21
        obtain ⟨hu, h⟩ := h
        replace hu : J = J23 := hu.symm
        subst hu
        refine lv_goto (tgt := 54) hx hb dX6_done_45 (by decide) ?_
        rw [hQ]
        exact mreti (w := (wM g q)) (u := (S22, J)) hC hr hlocks hK hw ⟨rfl, h⟩ dX6_done_54
    · replace h := h.1 c25
      exact join5  _ _ _ h hw (lv_sub hl [0] rfl)
def wX6_yields (S : Bun) (J : Lon) (a1 : Int32) (post : Int32 → Bun → Prop) : Prop :=
  wX6_isTeam S J a1 (fun r1 => ((r1 = 0 → wX6_finds S J (-1000000001 : Int32) (fun r16 S18 => post r16 S18)) ∧ (¬ (r1 = 0) → wX6_findCosts S J a1 (fun S5 => wX6_findLines S5 J  (fun S9 => (((S9 0 19) = 0 → wX6_finds S9 J (-1000000004 : Int32) (fun r11 S13 => post r11 S13)) ∧ (¬ ((S9 0 19) = 0) → post (S9 0 22) S9)))))))
set_option maxRecDepth 100000 in
set_option maxHeartbeats 4000000 in
theorem kX6_yields (l : Launch) (g : Gl)  (q : Nat → Nat) (sz : Nat) (S : Bun) (J : Lon) (a1 : Int32) (post : Int32 → Bun → Prop) (h : wX6_yields S J a1 post) : Met l yX6_yields wsX6_yields (rmm 7 172) (wPc g E0 ((wM g q) (S, J)) sz [.ref (q 0), .int a1]) (va_Qi (fun (r : Int32) (u : Bun × Lon) => u.2 = J ∧ post r u.1) (wB g (wM g q) (va_A ((wM g q) (S, J)) sz)) (va_A ((wM g q) (S, J)) sz)) 0 0 (va_A ((wM g q) (S, J)) sz) := by
  refine mstart (Qf := fun A => va_Qi (fun (r : Int32) (u : Bun × Lon) => u.2 = J ∧ post r u.1) (wB g (wM g q) A) A) (by decide) rfl (Nat.le_of_ble_eq_true rfl) ?_
  intro p e s m args below meth c A Q H locs ls hC hr hlocks hname hQ hA hK hE hw hl
  have hC : CallFix p m c cX6_yields 2 s args wsX6_yields RX6 := hC
  obtain ⟨hx, hb, -, hown, hts⟩ := id hC
  have hl : lv_has ls 2 [(0, .ref (q 0)), (1, .int a1)] := hl
  rw [wX6_yields] at h
  have hinX6 : ∀ w ∈ wsX60, w ∈ wsX6_yields := fun w hw9 => List.mem_cons_of_mem _ (List.mem_append_right _ hw9)
  refine lv_aload_n hx hb dX6_yields_0 rfl (lv_at hl 0 rfl) ?_
  refine lv_iload_n hx hb dX6_yields_1 rfl (lv_at hl 1 rfl) ?_
  refine mcalli (w1 := (wM g q)) (va_runV (As := [.int a1]) (rest := []) hC (kX6_isTeam l g  q H.size S J a1 _ h) (cwV 1 hts gX6_yields_X6_isTeam rfl rfl rfl (by decide +kernel) ⟨Nat.le_of_ble_eq_true rfl, Nat.le_of_ble_eq_true rfl⟩) (mpreV E0_ok hK hE hA hw (Sub1.refl _) 0 rfl rfl) rfl rfl hl.1 rfl (lv_room (Nat.le_of_ble_eq_true rfl)) dX6_yields_2 ⟨Nat.zero_le _, Nat.zero_le _⟩) hA hw (Sub1.refl _) (fun _ => Sub.whole rfl) (fun r1 u2 H locs h hw => ?_)
  obtain ⟨hu, h⟩ := h
  replace hu := hu.symm
  subst hu
  refine lv_if_ne (tgt := 15) hx hb dX6_yields_5 (by decide) (fun c20 => ?_) (fun c20 => ?_)
  · replace h := h.2 c20
    refine lv_aload_n hx hb dX6_yields_15 rfl (lv_at hl 0 rfl) ?_
    refine lv_iload_n hx hb dX6_yields_16 rfl (lv_at hl 1 rfl) ?_
    refine mcallv (w1 := (wM g q)) (va_runV (As := [.int a1]) (rest := []) hC (kX6_findCosts l g  q H.size S J a1 _ h) (cwV 1 hts gX6_yields_X6_findCosts rfl rfl rfl (by decide +kernel) ⟨Nat.le_of_ble_eq_true rfl, Nat.le_of_ble_eq_true rfl⟩) (mpreV E0_ok hK hE hA hw (Sub1.refl _) 0 rfl rfl) rfl rfl hl.1 rfl (lv_room (Nat.le_of_ble_eq_true rfl)) dX6_yields_17 ⟨Nat.zero_le _, Nat.zero_le _⟩) hA hw (Sub1.refl _) (fun _ => Sub.whole rfl) (fun u4 H locs h hw => ?_)
    obtain ⟨S5, J6⟩ := u4
    obtain ⟨hu, h⟩ := h
    replace hu : J = J6 := hu.symm
    subst hu
    refine lv_aload_n hx hb dX6_yields_20 rfl (lv_at hl 0 rfl) ?_
    refine mcallv (w1 := (wM g q)) (va_runV (As := []) (rest := []) hC (kX6_findLines l g  q H.size S5 J  _ h) (cwV 0 hts gX6_yields_X6_findLines rfl rfl rfl (by decide +kernel) ⟨Nat.le_of_ble_eq_true rfl, Nat.le_of_ble_eq_true rfl⟩) (mpreV E0_ok hK hE hA hw (Sub1.refl _) 0 rfl rfl) rfl rfl hl.1 rfl (lv_room (Nat.le_of_ble_eq_true rfl)) dX6_yields_21 ⟨Nat.zero_le _, Nat.zero_le _⟩) hA hw (Sub1.refl _) (fun _ => Sub.whole rfl) (fun u8 H locs h hw => ?_)
    obtain ⟨S9, J10⟩ := u8
    obtain ⟨hu, h⟩ := h
    replace hu : J = J10 := hu.symm
    subst hu
    refine lv_aload_n hx hb dX6_yields_24 rfl (lv_at hl 0 rfl) ?_
    refine M_mg19 hC hinX6 hK hw (List.mem_of_getElem? (i := 2) rfl) dX6_yields_25 ?_
    refine lv_if_ne (tgt := 40) hx hb dX6_yields_28 (by decide) (fun c15 => ?_) (fun c15 => ?_)
    · replace h := h.2 c15
      refine lv_aload_n hx hb dX6_yields_40 rfl (lv_at hl 0 rfl) ?_
      refine M_mg22 hC hinX6 hK hw (List.mem_of_getElem? (i := 4) rfl) dX6_yields_41 ?_
      rw [hQ]
      exact mreti (w := (wM g q)) (u := (S9, J)) hC hr hlocks hK hw ⟨rfl, h⟩ dX6_yields_44
    · replace h := h.1 c15
      refine lv_aload_n hx hb dX6_yields_31 rfl (lv_at hl 0 rfl) ?_
      refine lv_ldc (v := (-1000000004 : Int32)) hx hb hown (hts (.constant RX6 188 (-1000000004)) (List.mem_of_getElem? (i := 3) rfl)) dX6_yields_32 ?_
      refine mcalli (w1 := (wM g q)) (va_runV (As := [.int (-1000000004 : Int32)]) (rest := []) hC (kX6_finds l g  q H.size S9 J (-1000000004 : Int32) _ h) (cwV 1 hts gX6_yields_X6_finds rfl rfl rfl (by decide +kernel) ⟨Nat.le_of_ble_eq_true rfl, Nat.le_of_ble_eq_true rfl⟩) (mpreV E0_ok hK hE hA hw (Sub1.refl _) 0 rfl rfl) rfl rfl hl.1 rfl (lv_room (Nat.le_of_ble_eq_true rfl)) dX6_yields_34 ⟨Nat.zero_le _, Nat.zero_le _⟩) hA hw (Sub1.refl _) (fun _ => Sub.whole rfl) (fun r11 u12 H locs h hw => ?_)
      obtain ⟨S13, J14⟩ := u12
      obtain ⟨hu, h⟩ := h
      replace hu : J = J14 := hu.symm
      subst hu
      refine lv_goto (tgt := 44) hx hb dX6_yields_37 (by decide) ?_
      rw [hQ]
      exact mreti (w := (wM g q)) (u := (S13, J)) hC hr hlocks hK hw ⟨rfl, h⟩ dX6_yields_44
  · replace h := h.1 c20
    refine lv_aload_n hx hb dX6_yields_8 rfl (lv_at hl 0 rfl) ?_
    refine lv_ldc (v := (-1000000001 : Int32)) hx hb hown (hts (.constant RX6 68 (-1000000001)) (List.mem_of_getElem? (i := 1) rfl)) dX6_yields_9 ?_
    refine mcalli (w1 := (wM g q)) (va_runV (As := [.int (-1000000001 : Int32)]) (rest := []) hC (kX6_finds l g  q H.size S J (-1000000001 : Int32) _ h) (cwV 1 hts gX6_yields_X6_finds rfl rfl rfl (by decide +kernel) ⟨Nat.le_of_ble_eq_true rfl, Nat.le_of_ble_eq_true rfl⟩) (mpreV E0_ok hK hE hA hw (Sub1.refl _) 0 rfl rfl) rfl rfl hl.1 rfl (lv_room (Nat.le_of_ble_eq_true rfl)) dX6_yields_11 ⟨Nat.zero_le _, Nat.zero_le _⟩) hA hw (Sub1.refl _) (fun _ => Sub.whole rfl) (fun r16 u17 H locs h hw => ?_)
    obtain ⟨S18, J19⟩ := u17
    obtain ⟨hu, h⟩ := h
    replace hu : J = J19 := hu.symm
    subst hu
    rw [hQ]
    exact mreti (w := (wM g q)) (u := (S18, J)) hC hr hlocks hK hw ⟨rfl, h⟩ dX6_yields_14
def wX6_row (S : Bun) (J : Lon) (a1 : Int32) (a2 : Int32) (a3 : Int32) (post : Int32 → Bun → Prop) : Prop :=
  wX6_isTeam S J a1 (fun r1 => wjoin (σ := Unit) (fun _ => wX6_finds S J (-1000000001 : Int32) (fun r6 S8 => post r6 S8)) (fun J3 => ((r1 = 0 → J3 ()) ∧ (¬ (r1 = 0) → wX6_in a3.toInt64 (0 : Int64) (6 : Int64) (fun r10 => ((r10 = 0 → J3 ()) ∧ (¬ (r10 = 0) → wjoin (σ := Int32) (fun y12 => ∀ x16 : Int32, x16 = a3 - (1 : Int32) → wloop (σ := Int32 × Int32 × Int32 × Bun) (fun K21 z => match z with | (x17, x18, x19, S20) => ((x19 < 0 → wjoin (σ := Unit) (fun _ => wX6_finds S20 J (-1000000001 : Int32) (fun r30 S32 => post r30 S32)) (fun J27 => ((x18 = 0 → J27 ()) ∧ (¬ (x18 = 0) → ((x17 ≤ 0 → wX6_findCosts S20 J a1 (fun S36 => wloop (σ := Int32) (fun K39 x38 => ((a3 ≤ x38 → post x38 S36) ∧ (¬ (a3 ≤ x38) → vp_in x38 6 ∧ vp_in (S36 16 x38.toNatClampNeg) 6 ∧ (((S36 15 (S36 16 x38.toNatClampNeg).toNatClampNeg) < 0 → post x38 S36) ∧ (¬ ((S36 15 (S36 16 x38.toNatClampNeg).toNatClampNeg) < 0) → wX6_mayStand S36 J x38 (fun r45 => ((r45 = 0 → post x38 S36) ∧ (¬ (r45 = 0) → ∀ x47 : Int32, x47 = x38 + (1 : Int32) → K39 x47)))))))) (0 : Int32))) ∧ (¬ (x17 ≤ 0) → J27 ())))))) ∧ (¬ (x19 < 0) → vp_in x19 6 ∧ ∀ S54 : Bun, S54 = up S20 16 x19.toNatClampNeg (x17 - x17 / (6 : Int32) * (6 : Int32)) → ∀ x55 : Int32, x55 = x17 / (6 : Int32) → ((x18 = 0 → ∀ x56 : Int32, x56 = x19 + (-1 : Int32) → K21 (x55, (0 : Int32), x56, S54)) ∧ (¬ (x18 = 0) → vp_in x19 6 ∧ vp_in (0 : Int32) 56 ∧ (((S54 1 (0 : Int32).toNatClampNeg) ≤ (S54 16 x19.toNatClampNeg) → ∀ x58 : Int32, x58 = x19 + (-1 : Int32) → K21 (x55, (0 : Int32), x58, S54)) ∧ (¬ ((S54 1 (0 : Int32).toNatClampNeg) ≤ (S54 16 x19.toNatClampNeg)) → ∀ x60 : Int32, x60 = x19 + (-1 : Int32) → K21 (x55, (1 : Int32), x60, S54)))))))) (a2, y12, x16, S)) (fun J13 => ((a2 < 0 → J13 (0 : Int32)) ∧ (¬ (a2 < 0) → J13 (1 : Int32)))))))))))
set_option maxRecDepth 100000 in
set_option maxHeartbeats 4000000 in
theorem kX6_row (l : Launch) (g : Gl)  (q : Nat → Nat) (sz : Nat) (S : Bun) (J : Lon) (a1 : Int32) (a2 : Int32) (a3 : Int32) (post : Int32 → Bun → Prop) (h : wX6_row S J a1 a2 a3 post) : Met l yX6_row wsX6_row (rmm 7 172) (wPc g E0 ((wM g q) (S, J)) sz [.ref (q 0), .int a1, .int a2, .int a3]) (va_Qi (fun (r : Int32) (u : Bun × Lon) => u.2 = J ∧ post r u.1) (wB g (wM g q) (va_A ((wM g q) (S, J)) sz)) (va_A ((wM g q) (S, J)) sz)) 0 0 (va_A ((wM g q) (S, J)) sz) := by
  refine mstart (Qf := fun A => va_Qi (fun (r : Int32) (u : Bun × Lon) => u.2 = J ∧ post r u.1) (wB g (wM g q) A) A) (by decide) rfl (Nat.le_of_ble_eq_true rfl) ?_
  intro p e s m args below meth c A Q H locs ls hC hr hlocks hname hQ hA hK hE hw hl
  have hC : CallFix p m c cX6_row 7 s args wsX6_row RX6 := hC
  obtain ⟨hx, hb, -, hown, hts⟩ := id hC
  have hl : lv_has ls 7 [(0, .ref (q 0)), (1, .int a1), (2, .int a2), (3, .int a3)] := hl
  rw [wX6_row] at h
  have hinX6 : ∀ w ∈ wsX60, w ∈ wsX6_row := fun w hw9 => List.mem_cons_of_mem _ (List.mem_append_right _ hw9)
  refine lv_aload_n hx hb dX6_row_0 rfl (lv_at hl 0 rfl) ?_
  refine lv_iload_n hx hb dX6_row_1 rfl (lv_at hl 1 rfl) ?_
  refine mcalli (w1 := (wM g q)) (va_runV (As := [.int a1]) (rest := []) hC (kX6_isTeam l g  q H.size S J a1 _ h) (cwV 1 hts gX6_row_X6_isTeam rfl rfl rfl (by decide +kernel) ⟨Nat.le_of_ble_eq_true rfl, Nat.le_of_ble_eq_true rfl⟩) (mpreV E0_ok hK hE hA hw (Sub1.refl _) 0 rfl rfl) rfl rfl hl.1 rfl (lv_room (Nat.le_of_ble_eq_true rfl)) dX6_row_2 ⟨Nat.zero_le _, Nat.zero_le _⟩) hA hw (Sub1.refl _) (fun _ => Sub.whole rfl) (fun r1 u2 H locs h hw => ?_)
  obtain ⟨hu, h⟩ := h
  replace hu := hu.symm
  subst hu
  obtain ⟨J3, hJ4, h⟩ := h
  have join5 : ∀  (H : Heap) (locs : List Loc) (ls : Array Slot), J3 () → Wd g.1 A s.heap ((wM g q) (S, J)) H locs → lv_has ls 7 [(0, .ref (q 0))] → W p l e (rmm 7 172) s m args below meth c H locs 0 0 Q (F0 m 20 ls []) := by
    intro  H locs ls h hw hl
    replace h := hJ4 () h
    refine lv_aload_n hx hb dX6_row_20 rfl (lv_at hl 0 rfl) ?_
    refine lv_ldc (v := (-1000000001 : Int32)) hx hb hown (hts (.constant RX6 68 (-1000000001)) (List.mem_of_getElem? (i := 2) rfl)) dX6_row_21 ?_
    refine mcalli (w1 := (wM g q)) (va_runV (As := [.int (-1000000001 : Int32)]) (rest := []) hC (kX6_finds l g  q H.size S J (-1000000001 : Int32) _ h) (cwV 1 hts gX6_row_X6_finds rfl rfl rfl (by decide +kernel) ⟨Nat.le_of_ble_eq_true rfl, Nat.le_of_ble_eq_true rfl⟩) (mpreV E0_ok hK hE hA hw (Sub1.refl _) 0 rfl rfl) rfl rfl hl.1 rfl (lv_room (Nat.le_of_ble_eq_true rfl)) dX6_row_23 ⟨Nat.zero_le _, Nat.zero_le _⟩) hA hw (Sub1.refl _) (fun _ => Sub.whole rfl) (fun r6 u7 H locs h hw => ?_)
    obtain ⟨S8, J9⟩ := u7
    obtain ⟨hu, h⟩ := h
    replace hu : J = J9 := hu.symm
    subst hu
    rw [hQ]
    exact mreti (w := (wM g q)) (u := (S8, J)) hC hr hlocks hK hw ⟨rfl, h⟩ dX6_row_26
  refine lv_if_eq (tgt := 20) hx hb dX6_row_5 (by decide) (fun c67 => ?_) (fun c67 => ?_)
  · replace h := h.1 c67
    exact join5  _ _ _ h hw (lv_sub hl [0] rfl)
  · replace h := h.2 c67
    refine lv_iload_n hx hb dX6_row_8 rfl (lv_at hl 3 rfl) ?_
    refine lv_i2l (v := a3.toInt64) hx hb dX6_row_9 rfl ?_
    refine lv_lconst (v := (0 : Int64)) hx hb dX6_row_10 (by decide) ?_
    refine lv_ldc2 (v := (6 : Int64)) hx hb hown (hts (.constantLong RX6 218 (6)) (List.mem_of_getElem? (i := 1) rfl)) dX6_row_11 ?_
    refine mcalli (w1 := (fun _ => (wM g q) (S, J))) (wc := fun _ : Unit => ([] : va_W)) (u := ()) (va_runS (As := [.long a3.toInt64, .long (0 : Int64), .long (6 : Int64)]) (rest := []) hC (kX6_in l g  H.size a3.toInt64 (0 : Int64) (6 : Int64) _ h) (va_cwS 3 hts gX6_row_X6_in rfl rfl rfl (by decide +kernel) ⟨Nat.le_of_ble_eq_true rfl, Nat.le_of_ble_eq_true rfl⟩) (mpre E0_ok hK hE hA hw (Sub1.nil _)) rfl rfl hl.1 rfl (lv_room (Nat.le_of_ble_eq_true rfl)) dX6_row_14 ⟨Nat.zero_le _, Nat.zero_le _⟩) hA hw (Sub1.nil _) (fun _ => Sub.nil _) (fun r10 u11 H locs h hw => ?_)
    obtain ⟨_, h⟩ := h
    refine lv_if_ne (tgt := 27) hx hb dX6_row_17 (by decide) (fun c66 => ?_) (fun c66 => ?_)
    · replace h := h.2 c66
      refine lv_iload_n hx hb dX6_row_27 rfl (lv_at hl 2 rfl) ?_
      refine lv_istore (lv' := [(4, .int a2), (0, .ref (q 0)), (1, .int a1), (2, .int a2), (3, .int a3)]) hx hb dX6_row_28 hl (by decide) rfl (fun ls hl => ?_)
      refine lv_iload_n hx hb dX6_row_30 rfl (lv_at hl 3 rfl) ?_
      obtain ⟨J13, hJ14, h⟩ := h
      have join15 : ∀ (y12 : Int32) (H : Heap) (locs : List Loc) (ls : Array Slot), J13 y12 → Wd g.1 A s.heap ((wM g q) (S, J)) H locs → lv_has ls 7 [(0, .ref (q 0)), (1, .int a1), (3, .int a3), (4, .int a2)] → W p l e (rmm 7 172) s m args below meth c H locs 0 0 Q (F0 m 39 ls [.int y12]) := by
        intro y12 H locs ls h hw hl
        replace h := hJ14 y12 h
        refine lv_istore (lv' := [(5, .int y12), (0, .ref (q 0)), (1, .int a1), (3, .int a3), (4, .int a2)]) hx hb dX6_row_39 hl (by decide) rfl (fun ls hl => ?_)
        refine lv_iload_n hx hb dX6_row_41 rfl (lv_at hl 3 rfl) ?_
        refine lv_iconst (v := (1 : Int32)) hx hb dX6_row_42 (by decide) ?_
        refine lv_isub hx hb dX6_row_43 ?_
        refine lv_topi (fun x16 ex16 => ?_)
        replace h := h x16 ex16
        refine lv_istore (lv' := [(6, .int x16), (5, .int y12), (0, .ref (q 0)), (1, .int a1), (3, .int a3), (4, .int a2)]) hx hb dX6_row_44 hl (by decide) rfl (fun ls hl => ?_)
        refine h (fun z => match z with | (x17, x18, x19, S20) => ∀ (H : Heap) (locs : List Loc) (ls : Array Slot), Wd g.1 A s.heap ((wM g q) (S20, J)) H locs → lv_has ls 7 [(0, .ref (q 0)), (1, .int a1), (3, .int a3), (4, .int x17), (5, .int x18), (6, .int x19)] → W p l e (rmm 7 172) s m args below meth c H locs 0 0 Q (F0 m 46 ls [])) ?_ _ _ _ hw (lv_sub hl [2, 3, 4, 5, 1, 0] rfl)
        clear h hw hl
        rintro ⟨x17, x18, x19, S20⟩ h H locs ls hw hl
        refine lv_iload hx hb dX6_row_46 (lv_at hl 5 rfl) ?_
        refine lv_if_lt (tgt := 104) hx hb dX6_row_48 (by decide) (fun c64 => ?_) (fun c64 => ?_)
        · replace h := h.1 c64
          refine lv_iload hx hb dX6_row_104 (lv_at hl 4 rfl) ?_
          obtain ⟨J27, hJ28, h⟩ := h
          have join29 : ∀  (H : Heap) (locs : List Loc) (ls : Array Slot), J27 () → Wd g.1 A s.heap ((wM g q) (S20, J)) H locs → lv_has ls 7 [(0, .ref (q 0))] → W p l e (rmm 7 172) s m args below meth c H locs 0 0 Q (F0 m 114 ls []) := by
            intro  H locs ls h hw hl
            replace h := hJ28 () h
            refine lv_aload_n hx hb dX6_row_114 rfl (lv_at hl 0 rfl) ?_
            refine lv_ldc (v := (-1000000001 : Int32)) hx hb hown (hts (.constant RX6 68 (-1000000001)) (List.mem_of_getElem? (i := 2) rfl)) dX6_row_115 ?_
            refine mcalli (w1 := (wM g q)) (va_runV (As := [.int (-1000000001 : Int32)]) (rest := []) hC (kX6_finds l g  q H.size S20 J (-1000000001 : Int32) _ h) (cwV 1 hts gX6_row_X6_finds rfl rfl rfl (by decide +kernel) ⟨Nat.le_of_ble_eq_true rfl, Nat.le_of_ble_eq_true rfl⟩) (mpreV E0_ok hK hE hA hw (Sub1.refl _) 0 rfl rfl) rfl rfl hl.1 rfl (lv_room (Nat.le_of_ble_eq_true rfl)) dX6_row_117 ⟨Nat.zero_le _, Nat.zero_le _⟩) hA hw (Sub1.refl _) (fun _ => Sub.whole rfl) (fun r30 u31 H locs h hw => ?_)
            obtain ⟨S32, J33⟩ := u31
            obtain ⟨hu, h⟩ := h
            replace hu : J = J33 := hu.symm
            subst hu
            rw [hQ]
            exact mreti (w := (wM g q)) (u := (S32, J)) hC hr hlocks hK hw ⟨rfl, h⟩ dX6_row_120
          refine lv_if_eq (tgt := 114) hx hb dX6_row_106 (by decide) (fun c53 => ?_) (fun c53 => ?_)
          · replace h := h.1 c53
            exact join29  _ _ _ h hw (lv_sub hl [0] rfl)
          · replace h := h.2 c53
            refine lv_iload hx hb dX6_row_109 (lv_at hl 3 rfl) ?_
            refine lv_if_le (tgt := 121) hx hb dX6_row_111 (by decide) (fun c52 => ?_) (fun c52 => ?_)
            · replace h := h.1 c52
              refine lv_aload_n hx hb dX6_row_121 rfl (lv_at hl 0 rfl) ?_
              refine lv_iload_n hx hb dX6_row_122 rfl (lv_at hl 1 rfl) ?_
              refine mcallv (w1 := (wM g q)) (va_runV (As := [.int a1]) (rest := []) hC (kX6_findCosts l g  q H.size S20 J a1 _ h) (cwV 1 hts gX6_row_X6_findCosts rfl rfl rfl (by decide +kernel) ⟨Nat.le_of_ble_eq_true rfl, Nat.le_of_ble_eq_true rfl⟩) (mpreV E0_ok hK hE hA hw (Sub1.refl _) 0 rfl rfl) rfl rfl hl.1 rfl (lv_room (Nat.le_of_ble_eq_true rfl)) dX6_row_123 ⟨Nat.zero_le _, Nat.zero_le _⟩) hA hw (Sub1.refl _) (fun _ => Sub.whole rfl) (fun u35 H locs h hw => ?_)
              obtain ⟨S36, J37⟩ := u35
              obtain ⟨hu, h⟩ := h
              replace hu : J = J37 := hu.symm
              subst hu
              refine lv_iconst (v := (0 : Int32)) hx hb dX6_row_126 (by decide) ?_
              refine lv_istore (lv' := [(6, .int (0 : Int32)), (0, .ref (q 0)), (1, .int a1), (3, .int a3), (4, .int x17), (5, .int x18)]) hx hb dX6_row_127 hl (by decide) rfl (fun ls hl => ?_)
              refine h (fun x38 => ∀ (H : Heap) (locs : List Loc) (ls : Array Slot), Wd g.1 A s.heap ((wM g q) (S36, J)) H locs → lv_has ls 7 [(0, .ref (q 0)), (3, .int a3), (6, .int x38)] → W p l e (rmm 7 172) s m args below meth c H locs 0 0 Q (F0 m 129 ls [])) ?_ _ _ _ hw (lv_sub hl [1, 3, 0] rfl)
              clear h hw hl
              rintro x38 h H locs ls hw hl
              refine lv_iload hx hb dX6_row_129 (lv_at hl 2 rfl) ?_
              refine lv_iload_n hx hb dX6_row_131 rfl (lv_at hl 1 rfl) ?_
              refine lv_icmp_ge (tgt := 165) hx hb dX6_row_132 (by decide) (fun c51 => ?_) (fun c51 => ?_)
              · replace h := h.1 c51
                refine lv_iload hx hb dX6_row_165 (lv_at hl 2 rfl) ?_
                rw [hQ]
                exact mreti (w := (wM g q)) (u := (S36, J)) hC hr hlocks hK hw ⟨rfl, h⟩ dX6_row_167
              · replace h := h.2 c51
                refine lv_aload_n hx hb dX6_row_135 rfl (lv_at hl 0 rfl) ?_
                refine M_mg14 hC hinX6 hK hw (List.mem_of_getElem? (i := 5) rfl) dX6_row_136 ?_
                refine lv_aload_n hx hb dX6_row_139 rfl (lv_at hl 0 rfl) ?_
                refine M_mg15 hC hinX6 hK hw (List.mem_of_getElem? (i := 3) rfl) dX6_row_140 ?_
                refine lv_iload hx hb dX6_row_143 (lv_at hl 2 rfl) ?_
                obtain ⟨hi, h⟩ := h
                refine M_ml15 hC hK hw hi dX6_row_145 ?_
                obtain ⟨hi, h⟩ := h
                refine M_ml14 hC hK hw hi dX6_row_146 ?_
                refine lv_if_lt (tgt := 165) hx hb dX6_row_147 (by decide) (fun c50 => ?_) (fun c50 => ?_)
                · replace h := h.1 c50
                  refine lv_iload hx hb dX6_row_165 (lv_at hl 2 rfl) ?_
                  rw [hQ]
                  exact mreti (w := (wM g q)) (u := (S36, J)) hC hr hlocks hK hw ⟨rfl, h⟩ dX6_row_167
                · replace h := h.2 c50
                  refine lv_aload_n hx hb dX6_row_150 rfl (lv_at hl 0 rfl) ?_
                  refine lv_iload hx hb dX6_row_151 (lv_at hl 2 rfl) ?_
                  refine mcalli (w1 := (wM g q)) (va_runV (As := [.int x38]) (rest := []) hC (kX6_mayStand l g  q H.size S36 J x38 _ h) (cwV 1 hts gX6_row_X6_mayStand rfl rfl rfl (by decide +kernel) ⟨Nat.le_of_ble_eq_true rfl, Nat.le_of_ble_eq_true rfl⟩) (mpreV E0_ok hK hE hA hw (Sub1.refl _) 0 rfl rfl) rfl rfl hl.1 rfl (lv_room (Nat.le_of_ble_eq_true rfl)) dX6_row_153 ⟨Nat.zero_le _, Nat.zero_le _⟩) hA hw (Sub1.refl _) (fun _ => Sub.whole rfl) (fun r45 u46 H locs h hw => ?_)
                  obtain ⟨hu, h⟩ := h
                  replace hu := hu.symm
                  subst hu
                  refine lv_if_eq (tgt := 165) hx hb dX6_row_156 (by decide) (fun c49 => ?_) (fun c49 => ?_)
                  · replace h := h.1 c49
                    refine lv_iload hx hb dX6_row_165 (lv_at hl 2 rfl) ?_
                    rw [hQ]
                    exact mreti (w := (wM g q)) (u := (S36, J)) hC hr hlocks hK hw ⟨rfl, h⟩ dX6_row_167
                  · replace h := h.2 c49
                    obtain ⟨x47, ex47⟩ : ∃ y : Int32, y = x38 + (1 : Int32) := ⟨_, rfl⟩
                    refine lv_iinc (v := x47) (lv' := [(6, .int x47), (0, .ref (q 0)), (3, .int a3)]) hx hb dX6_row_159 hl (k := 2) rfl (by rw [ex47]; rfl) (by decide) rfl (fun ls hl => ?_)
                    replace h := h x47 ex47
                    refine lv_goto (tgt := 129) hx hb dX6_row_162 (by decide) ?_
                    exact h _ _ _ hw (lv_sub hl [1, 2, 0] rfl)
            · replace h := h.2 c52
              exact join29  _ _ _ h hw (lv_sub hl [0] rfl)
        · replace h := h.2 c64
          refine lv_aload_n hx hb dX6_row_51 rfl (lv_at hl 0 rfl) ?_
          refine M_mg15 hC hinX6 hK hw (List.mem_of_getElem? (i := 3) rfl) dX6_row_52 ?_
          refine lv_iload hx hb dX6_row_55 (lv_at hl 5 rfl) ?_
          refine lv_iload hx hb dX6_row_57 (lv_at hl 3 rfl) ?_
          refine lv_bipush (v := (6 : Int32)) hx hb dX6_row_59 (by decide) ?_
          refine lv_irem hx hb dX6_row_61 (by decide) ?_
          obtain ⟨hi, h⟩ := h
          refine M_ms15 hC hK hw hi dX6_row_62 (fun S54 H locs eS54 hw => ?_)
          replace h := h S54 eS54
          refine lv_iload hx hb dX6_row_63 (lv_at hl 3 rfl) ?_
          refine lv_bipush (v := (6 : Int32)) hx hb dX6_row_65 (by decide) ?_
          refine lv_idiv hx hb dX6_row_67 (by decide) ?_
          refine lv_topi (fun x55 ex55 => ?_)
          replace h := h x55 ex55
          refine lv_istore (lv' := [(4, .int x55), (0, .ref (q 0)), (1, .int a1), (3, .int a3), (5, .int x18), (6, .int x19)]) hx hb dX6_row_68 hl (by decide) rfl (fun ls hl => ?_)
          refine lv_iload hx hb dX6_row_70 (lv_at hl 4 rfl) ?_
          refine lv_if_eq (tgt := 95) hx hb dX6_row_72 (by decide) (fun c63 => ?_) (fun c63 => ?_)
          · replace h := h.1 c63
            refine lv_iconst (v := (0 : Int32)) hx hb dX6_row_95 (by decide) ?_
            refine lv_istore (lv' := [(5, .int (0 : Int32)), (4, .int x55), (0, .ref (q 0)), (1, .int a1), (3, .int a3), (6, .int x19)]) hx hb dX6_row_96 hl (by decide) rfl (fun ls hl => ?_)
            obtain ⟨x56, ex56⟩ : ∃ y : Int32, y = x19 + (-1 : Int32) := ⟨_, rfl⟩
            refine lv_iinc (v := x56) (lv' := [(6, .int x56), (5, .int (0 : Int32)), (4, .int x55), (0, .ref (q 0)), (1, .int a1), (3, .int a3)]) hx hb dX6_row_98 hl (k := 5) rfl (by rw [ex56]; rfl) (by decide) rfl (fun ls hl => ?_)
            replace h := h x56 ex56
            refine lv_goto (tgt := 46) hx hb dX6_row_101 (by decide) ?_
            exact h _ _ _ hw (lv_sub hl [3, 4, 5, 2, 1, 0] rfl)
          · replace h := h.2 c63
            refine lv_aload_n hx hb dX6_row_75 rfl (lv_at hl 1 rfl) ?_
            refine M_mg15 hC hinX6 hK hw (List.mem_of_getElem? (i := 3) rfl) dX6_row_76 ?_
            refine lv_iload hx hb dX6_row_79 (lv_at hl 5 rfl) ?_
            obtain ⟨hi, h⟩ := h
            refine M_ml15 hC hK hw hi dX6_row_81 ?_
            refine lv_aload_n hx hb dX6_row_82 rfl (lv_at hl 1 rfl) ?_
            refine M_mg0 hC hinX6 hK hw (List.mem_of_getElem? (i := 4) rfl) dX6_row_83 ?_
            refine lv_iconst (v := (0 : Int32)) hx hb dX6_row_86 (by decide) ?_
            obtain ⟨hi, h⟩ := h
            refine M_ml0 hC hK hw hi dX6_row_87 ?_
            refine lv_icmp_ge (tgt := 95) hx hb dX6_row_88 (by decide) (fun c62 => ?_) (fun c62 => ?_)
            · replace h := h.1 c62
              refine lv_iconst (v := (0 : Int32)) hx hb dX6_row_95 (by decide) ?_
              refine lv_istore (lv' := [(5, .int (0 : Int32)), (4, .int x55), (0, .ref (q 0)), (1, .int a1), (3, .int a3), (6, .int x19)]) hx hb dX6_row_96 hl (by decide) rfl (fun ls hl => ?_)
              obtain ⟨x58, ex58⟩ : ∃ y : Int32, y = x19 + (-1 : Int32) := ⟨_, rfl⟩
              refine lv_iinc (v := x58) (lv' := [(6, .int x58), (5, .int (0 : Int32)), (4, .int x55), (0, .ref (q 0)), (1, .int a1), (3, .int a3)]) hx hb dX6_row_98 hl (k := 5) rfl (by rw [ex58]; rfl) (by decide) rfl (fun ls hl => ?_)
              replace h := h x58 ex58
              refine lv_goto (tgt := 46) hx hb dX6_row_101 (by decide) ?_
              exact h _ _ _ hw (lv_sub hl [3, 4, 5, 2, 1, 0] rfl)
            · replace h := h.2 c62
              refine lv_iconst (v := (1 : Int32)) hx hb dX6_row_91 (by decide) ?_
              refine lv_goto (tgt := 96) hx hb dX6_row_92 (by decide) ?_
              refine lv_istore (lv' := [(5, .int (1 : Int32)), (4, .int x55), (0, .ref (q 0)), (1, .int a1), (3, .int a3), (6, .int x19)]) hx hb dX6_row_96 hl (by decide) rfl (fun ls hl => ?_)
              obtain ⟨x60, ex60⟩ : ∃ y : Int32, y = x19 + (-1 : Int32) := ⟨_, rfl⟩
              refine lv_iinc (v := x60) (lv' := [(6, .int x60), (5, .int (1 : Int32)), (4, .int x55), (0, .ref (q 0)), (1, .int a1), (3, .int a3)]) hx hb dX6_row_98 hl (k := 5) rfl (by rw [ex60]; rfl) (by decide) rfl (fun ls hl => ?_)
              replace h := h x60 ex60
              refine lv_goto (tgt := 46) hx hb dX6_row_101 (by decide) ?_
              exact h _ _ _ hw (lv_sub hl [3, 4, 5, 2, 1, 0] rfl)
      refine lv_if_lt (tgt := 38) hx hb dX6_row_31 (by decide) (fun c65 => ?_) (fun c65 => ?_)
      · replace h := h.1 c65
        refine lv_iconst (v := (0 : Int32)) hx hb dX6_row_38 (by decide) ?_
        exact join15 (0 : Int32) _ _ _ h hw (lv_sub hl [1, 2, 4, 0] rfl)
      · replace h := h.2 c65
        refine lv_iconst (v := (1 : Int32)) hx hb dX6_row_34 (by decide) ?_
        refine lv_goto (tgt := 39) hx hb dX6_row_35 (by decide) ?_
        exact join15 (1 : Int32) _ _ _ h hw (lv_sub hl [1, 2, 4, 0] rfl)
    · replace h := h.1 c66
      exact join5  _ _ _ h hw (lv_sub hl [0] rfl)
def wX6_lacks (S : Bun) (J : Lon) (a1 : Int32) (post : Int32 → Bun → Prop) : Prop :=
  wX6_isTeam S J a1 (fun r1 => ((r1 = 0 → wX6_finds S J (-1000000001 : Int32) (fun r64 S66 => post r64 S66)) ∧ (¬ (r1 = 0) → wX6_findCosts S J a1 (fun S5 => wloop (σ := Int32 × Int32 × Int32 × Bun) (fun K11 z => match z with | (x7, x8, x9, S10) => vp_in (0 : Int32) 56 ∧ (((S10 1 (0 : Int32).toNatClampNeg) ≤ x9 → ((0 ≤ x7 → post x7 S10) ∧ (¬ (0 ≤ x7) → wX6_finds S10 J (-1000000004 : Int32) (fun r17 S19 => post r17 S19)))) ∧ (¬ ((S10 1 (0 : Int32).toNatClampNeg) ≤ x9) → wloop (σ := Int32 × Int32 × Int32 × Bun) (fun K26 z => match z with | (x22, x23, x24, S25) => vp_in (0 : Int32) 56 ∧ (((S25 1 (0 : Int32).toNatClampNeg) ≤ x24 → ∀ x32 : Int32, x32 = x9 + (1 : Int32) → K11 (x22, x23, x32, S25)) ∧ (¬ ((S25 1 (0 : Int32).toNatClampNeg) ≤ x24) → ((x9 = x24 → ∀ x34 : Int32, x34 = x24 + (1 : Int32) → K26 (x22, x23, x34, S25)) ∧ (¬ (x9 = x24) → vp_in ((38 : Int32) + x9) 56 ∧ wX6_has (S25 1 ((38 : Int32) + x9).toNatClampNeg) x24 (fun r36 => ((r36 = 0 → vp_in ((38 : Int32) + x9) 56 ∧ vp_in ((38 : Int32) + x9) 56 ∧ ∀ S40 : Bun, S40 = up S25 1 ((38 : Int32) + x9).toNatClampNeg ((S25 1 ((38 : Int32) + x9).toNatClampNeg) ||| ((1 : Int32) <<< (x24 &&& 31))) → wX6_findLines S40 J  (fun S43 => vp_in ((38 : Int32) + x9) 56 ∧ vp_in ((38 : Int32) + x9) 56 ∧ ∀ S45 : Bun, S45 = up S43 1 ((38 : Int32) + x9).toNatClampNeg ((S43 1 ((38 : Int32) + x9).toNatClampNeg) &&& (((1 : Int32) <<< (x24 &&& 31)) ^^^ (-1 : Int32))) → (((S45 0 20) < 0 → ∀ x46 : Int32, x46 = x24 + (1 : Int32) → K26 (x22, x23, x46, S45)) ∧ (¬ ((S45 0 20) < 0) → wjoin (σ := Unit) (fun _ => ∀ x51 : Int32, x51 = ((10 : Int32) * x9) + x24 → ∀ x52 : Int32, x52 = S45 0 20 → ∀ x53 : Int32, x53 = x24 + (1 : Int32) → K26 (x51, x52, x53, S45)) (fun J48 => ((x22 < 0 → J48 ()) ∧ (¬ (x22 < 0) → ((x23 ≤ (S45 0 20) → ∀ x55 : Int32, x55 = x24 + (1 : Int32) → K26 (x22, x23, x55, S45)) ∧ (¬ (x23 ≤ (S45 0 20)) → J48 ()))))))))) ∧ (¬ (r36 = 0) → ∀ x38 : Int32, x38 = x24 + (1 : Int32) → K26 (x22, x23, x38, S25))))))))) (x7, x8, (0 : Int32), S10)))) ((-1 : Int32), (0 : Int32), (0 : Int32), S5)))))
set_option maxRecDepth 100000 in
set_option maxHeartbeats 4000000 in
theorem kX6_lacks (l : Launch) (g : Gl)  (q : Nat → Nat) (sz : Nat) (S : Bun) (J : Lon) (a1 : Int32) (post : Int32 → Bun → Prop) (h : wX6_lacks S J a1 post) : Met l yX6_lacks wsX6_lacks (rmm 7 172) (wPc g E0 ((wM g q) (S, J)) sz [.ref (q 0), .int a1]) (va_Qi (fun (r : Int32) (u : Bun × Lon) => u.2 = J ∧ post r u.1) (wB g (wM g q) (va_A ((wM g q) (S, J)) sz)) (va_A ((wM g q) (S, J)) sz)) 0 0 (va_A ((wM g q) (S, J)) sz) := by
  refine mstart (Qf := fun A => va_Qi (fun (r : Int32) (u : Bun × Lon) => u.2 = J ∧ post r u.1) (wB g (wM g q) A) A) (by decide) rfl (Nat.le_of_ble_eq_true rfl) ?_
  intro p e s m args below meth c A Q H locs ls hC hr hlocks hname hQ hA hK hE hw hl
  have hC : CallFix p m c cX6_lacks 6 s args wsX6_lacks RX6 := hC
  obtain ⟨hx, hb, -, hown, hts⟩ := id hC
  have hl : lv_has ls 6 [(0, .ref (q 0)), (1, .int a1)] := hl
  rw [wX6_lacks] at h
  have hinX6 : ∀ w ∈ wsX60, w ∈ wsX6_lacks := fun w hw9 => List.mem_cons_of_mem _ (List.mem_append_right _ hw9)
  refine lv_aload_n hx hb dX6_lacks_0 rfl (lv_at hl 0 rfl) ?_
  refine lv_iload_n hx hb dX6_lacks_1 rfl (lv_at hl 1 rfl) ?_
  refine mcalli (w1 := (wM g q)) (va_runV (As := [.int a1]) (rest := []) hC (kX6_isTeam l g  q H.size S J a1 _ h) (cwV 1 hts gX6_lacks_X6_isTeam rfl rfl rfl (by decide +kernel) ⟨Nat.le_of_ble_eq_true rfl, Nat.le_of_ble_eq_true rfl⟩) (mpreV E0_ok hK hE hA hw (Sub1.refl _) 0 rfl rfl) rfl rfl hl.1 rfl (lv_room (Nat.le_of_ble_eq_true rfl)) dX6_lacks_2 ⟨Nat.zero_le _, Nat.zero_le _⟩) hA hw (Sub1.refl _) (fun _ => Sub.whole rfl) (fun r1 u2 H locs h hw => ?_)
  obtain ⟨hu, h⟩ := h
  replace hu := hu.symm
  subst hu
  refine lv_if_ne (tgt := 15) hx hb dX6_lacks_5 (by decide) (fun c68 => ?_) (fun c68 => ?_)
  · replace h := h.2 c68
    refine lv_aload_n hx hb dX6_lacks_15 rfl (lv_at hl 0 rfl) ?_
    refine lv_iload_n hx hb dX6_lacks_16 rfl (lv_at hl 1 rfl) ?_
    refine mcallv (w1 := (wM g q)) (va_runV (As := [.int a1]) (rest := []) hC (kX6_findCosts l g  q H.size S J a1 _ h) (cwV 1 hts gX6_lacks_X6_findCosts rfl rfl rfl (by decide +kernel) ⟨Nat.le_of_ble_eq_true rfl, Nat.le_of_ble_eq_true rfl⟩) (mpreV E0_ok hK hE hA hw (Sub1.refl _) 0 rfl rfl) rfl rfl hl.1 rfl (lv_room (Nat.le_of_ble_eq_true rfl)) dX6_lacks_17 ⟨Nat.zero_le _, Nat.zero_le _⟩) hA hw (Sub1.refl _) (fun _ => Sub.whole rfl) (fun u4 H locs h hw => ?_)
    obtain ⟨S5, J6⟩ := u4
    obtain ⟨hu, h⟩ := h
    replace hu : J = J6 := hu.symm
    subst hu
    refine lv_iconst (v := (-1 : Int32)) hx hb dX6_lacks_20 (by decide) ?_
    refine lv_istore_n (lv' := [(2, .int (-1 : Int32)), (0, .ref (q 0)), (1, .int a1)]) hx hb dX6_lacks_21 rfl hl (by decide) rfl (fun ls hl => ?_)
    refine lv_iconst (v := (0 : Int32)) hx hb dX6_lacks_22 (by decide) ?_
    refine lv_istore_n (lv' := [(3, .int (0 : Int32)), (2, .int (-1 : Int32)), (0, .ref (q 0)), (1, .int a1)]) hx hb dX6_lacks_23 rfl hl (by decide) rfl (fun ls hl => ?_)
    refine lv_iconst (v := (0 : Int32)) hx hb dX6_lacks_24 (by decide) ?_
    refine lv_istore (lv' := [(4, .int (0 : Int32)), (3, .int (0 : Int32)), (2, .int (-1 : Int32)), (0, .ref (q 0)), (1, .int a1)]) hx hb dX6_lacks_25 hl (by decide) rfl (fun ls hl => ?_)
    refine h (fun z => match z with | (x7, x8, x9, S10) => ∀ (H : Heap) (locs : List Loc) (ls : Array Slot), Wd g.1 A s.heap ((wM g q) (S10, J)) H locs → lv_has ls 6 [(0, .ref (q 0)), (2, .int x7), (3, .int x8), (4, .int x9)] → W p l e (rmm 7 172) s m args below meth c H locs 0 0 Q (F0 m 27 ls [])) ?_ _ _ _ hw (lv_sub hl [3, 2, 1, 0] rfl)
    clear h hw hl
    rintro ⟨x7, x8, x9, S10⟩ h H locs ls hw hl
    refine lv_iload hx hb dX6_lacks_27 (lv_at hl 3 rfl) ?_
    refine lv_aload_n hx hb dX6_lacks_29 rfl (lv_at hl 0 rfl) ?_
    refine M_mg0 hC hinX6 hK hw (List.mem_of_getElem? (i := 2) rfl) dX6_lacks_30 ?_
    refine lv_iconst (v := (0 : Int32)) hx hb dX6_lacks_33 (by decide) ?_
    obtain ⟨hi, h⟩ := h
    refine M_ml0 hC hK hw hi dX6_lacks_34 ?_
    refine lv_icmp_ge (tgt := 162) hx hb dX6_lacks_35 (by decide) (fun c63 => ?_) (fun c63 => ?_)
    · replace h := h.1 c63
      refine lv_iload_n hx hb dX6_lacks_162 rfl (lv_at hl 1 rfl) ?_
      refine lv_if_ge (tgt := 175) hx hb dX6_lacks_163 (by decide) (fun c21 => ?_) (fun c21 => ?_)
      · replace h := h.1 c21
        refine lv_iload_n hx hb dX6_lacks_175 rfl (lv_at hl 1 rfl) ?_
        rw [hQ]
        exact mreti (w := (wM g q)) (u := (S10, J)) hC hr hlocks hK hw ⟨rfl, h⟩ dX6_lacks_176
      · replace h := h.2 c21
        refine lv_aload_n hx hb dX6_lacks_166 rfl (lv_at hl 0 rfl) ?_
        refine lv_ldc (v := (-1000000004 : Int32)) hx hb hown (hts (.constant RX6 188 (-1000000004)) (List.mem_of_getElem? (i := 4) rfl)) dX6_lacks_167 ?_
        refine mcalli (w1 := (wM g q)) (va_runV (As := [.int (-1000000004 : Int32)]) (rest := []) hC (kX6_finds l g  q H.size S10 J (-1000000004 : Int32) _ h) (cwV 1 hts gX6_lacks_X6_finds rfl rfl rfl (by decide +kernel) ⟨Nat.le_of_ble_eq_true rfl, Nat.le_of_ble_eq_true rfl⟩) (mpreV E0_ok hK hE hA hw (Sub1.refl _) 0 rfl rfl) rfl rfl hl.1 rfl (lv_room (Nat.le_of_ble_eq_true rfl)) dX6_lacks_169 ⟨Nat.zero_le _, Nat.zero_le _⟩) hA hw (Sub1.refl _) (fun _ => Sub.whole rfl) (fun r17 u18 H locs h hw => ?_)
        obtain ⟨S19, J20⟩ := u18
        obtain ⟨hu, h⟩ := h
        replace hu : J = J20 := hu.symm
        subst hu
        refine lv_goto (tgt := 176) hx hb dX6_lacks_172 (by decide) ?_
        rw [hQ]
        exact mreti (w := (wM g q)) (u := (S19, J)) hC hr hlocks hK hw ⟨rfl, h⟩ dX6_lacks_176
    · replace h := h.2 c63
      refine lv_iconst (v := (0 : Int32)) hx hb dX6_lacks_38 (by decide) ?_
      refine lv_istore (lv' := [(5, .int (0 : Int32)), (0, .ref (q 0)), (2, .int x7), (3, .int x8), (4, .int x9)]) hx hb dX6_lacks_39 hl (by decide) rfl (fun ls hl => ?_)
      refine h (fun z => match z with | (x22, x23, x24, S25) => ∀ (H : Heap) (locs : List Loc) (ls : Array Slot), Wd g.1 A s.heap ((wM g q) (S25, J)) H locs → lv_has ls 6 [(0, .ref (q 0)), (2, .int x22), (3, .int x23), (4, .int x9), (5, .int x24)] → W p l e (rmm 7 172) s m args below meth c H locs 0 0 Q (F0 m 41 ls [])) ?_ _ _ _ hw (lv_sub hl [1, 2, 3, 4, 0] rfl)
      clear h hw hl
      rintro ⟨x22, x23, x24, S25⟩ h H locs ls hw hl
      refine lv_iload hx hb dX6_lacks_41 (lv_at hl 4 rfl) ?_
      refine lv_aload_n hx hb dX6_lacks_43 rfl (lv_at hl 0 rfl) ?_
      refine M_mg0 hC hinX6 hK hw (List.mem_of_getElem? (i := 2) rfl) dX6_lacks_44 ?_
      refine lv_iconst (v := (0 : Int32)) hx hb dX6_lacks_47 (by decide) ?_
      obtain ⟨hi, h⟩ := h
      refine M_ml0 hC hK hw hi dX6_lacks_48 ?_
      refine lv_icmp_ge (tgt := 156) hx hb dX6_lacks_49 (by decide) (fun c62 => ?_) (fun c62 => ?_)
      · replace h := h.1 c62
        obtain ⟨x32, ex32⟩ : ∃ y : Int32, y = x9 + (1 : Int32) := ⟨_, rfl⟩
        refine lv_iinc (v := x32) (lv' := [(4, .int x32), (0, .ref (q 0)), (2, .int x22), (3, .int x23), (5, .int x24)]) hx hb dX6_lacks_156 hl (k := 3) rfl (by rw [ex32]; rfl) (by decide) rfl (fun ls hl => ?_)
        replace h := h x32 ex32
        refine lv_goto (tgt := 27) hx hb dX6_lacks_159 (by decide) ?_
        exact h _ _ _ hw (lv_sub hl [1, 2, 3, 0] rfl)
      · replace h := h.2 c62
        refine lv_iload hx hb dX6_lacks_52 (lv_at hl 3 rfl) ?_
        refine lv_iload hx hb dX6_lacks_54 (lv_at hl 4 rfl) ?_
        refine lv_icmp_eq (tgt := 150) hx hb dX6_lacks_56 (by decide) (fun c61 => ?_) (fun c61 => ?_)
        · replace h := h.1 c61
          obtain ⟨x34, ex34⟩ : ∃ y : Int32, y = x24 + (1 : Int32) := ⟨_, rfl⟩
          refine lv_iinc (v := x34) (lv' := [(5, .int x34), (0, .ref (q 0)), (2, .int x22), (3, .int x23), (4, .int x9)]) hx hb dX6_lacks_150 hl (k := 4) rfl (by rw [ex34]; rfl) (by decide) rfl (fun ls hl => ?_)
          replace h := h x34 ex34
          refine lv_goto (tgt := 41) hx hb dX6_lacks_153 (by decide) ?_
          exact h _ _ _ hw (lv_sub hl [1, 2, 3, 4, 0] rfl)
        · replace h := h.2 c61
          refine lv_aload_n hx hb dX6_lacks_59 rfl (lv_at hl 0 rfl) ?_
          refine M_mg0 hC hinX6 hK hw (List.mem_of_getElem? (i := 2) rfl) dX6_lacks_60 ?_
          refine lv_bipush (v := (38 : Int32)) hx hb dX6_lacks_63 (by decide) ?_
          refine lv_iload hx hb dX6_lacks_65 (lv_at hl 3 rfl) ?_
          refine lv_iadd hx hb dX6_lacks_67 ?_
          obtain ⟨hi, h⟩ := h
          refine M_ml0 hC hK hw hi dX6_lacks_68 ?_
          refine lv_iload hx hb dX6_lacks_69 (lv_at hl 4 rfl) ?_
          refine mcalli (w1 := (fun _ => (wM g q) (S25, J))) (wc := fun _ : Unit => ([] : va_W)) (u := ()) (va_runS (As := [.int (S25 1 ((38 : Int32) + x9).toNatClampNeg), .int x24]) (rest := []) hC (kX6_has l g  H.size (S25 1 ((38 : Int32) + x9).toNatClampNeg) x24 _ h) (va_cwS 2 hts gX6_lacks_X6_has rfl rfl rfl (by decide +kernel) ⟨Nat.le_of_ble_eq_true rfl, Nat.le_of_ble_eq_true rfl⟩) (mpre E0_ok hK hE hA hw (Sub1.nil _)) rfl rfl hl.1 rfl (lv_room (Nat.le_of_ble_eq_true rfl)) dX6_lacks_71 ⟨Nat.zero_le _, Nat.zero_le _⟩) hA hw (Sub1.nil _) (fun _ => Sub.nil _) (fun r36 u37 H locs h hw => ?_)
          obtain ⟨_, h⟩ := h
          refine lv_if_ne (tgt := 150) hx hb dX6_lacks_74 (by decide) (fun c60 => ?_) (fun c60 => ?_)
          · replace h := h.2 c60
            obtain ⟨x38, ex38⟩ : ∃ y : Int32, y = x24 + (1 : Int32) := ⟨_, rfl⟩
            refine lv_iinc (v := x38) (lv' := [(5, .int x38), (0, .ref (q 0)), (2, .int x22), (3, .int x23), (4, .int x9)]) hx hb dX6_lacks_150 hl (k := 4) rfl (by rw [ex38]; rfl) (by decide) rfl (fun ls hl => ?_)
            replace h := h x38 ex38
            refine lv_goto (tgt := 41) hx hb dX6_lacks_153 (by decide) ?_
            exact h _ _ _ hw (lv_sub hl [1, 2, 3, 4, 0] rfl)
          · replace h := h.1 c60
            refine lv_aload_n hx hb dX6_lacks_77 rfl (lv_at hl 0 rfl) ?_
            refine M_mg0 hC hinX6 hK hw (List.mem_of_getElem? (i := 2) rfl) dX6_lacks_78 ?_
            refine lv_bipush (v := (38 : Int32)) hx hb dX6_lacks_81 (by decide) ?_
            refine lv_iload hx hb dX6_lacks_83 (lv_at hl 3 rfl) ?_
            refine lv_iadd hx hb dX6_lacks_85 ?_
            refine lv_dup2_11 hx hb dX6_lacks_86 rfl rfl ?_
            obtain ⟨hi, h⟩ := h
            refine M_ml0 hC hK hw hi dX6_lacks_87 ?_
            refine lv_iconst (v := (1 : Int32)) hx hb dX6_lacks_88 (by decide) ?_
            refine lv_iload hx hb dX6_lacks_89 (lv_at hl 4 rfl) ?_
            refine lv_ishl hx hb dX6_lacks_91 ?_
            refine lv_ior hx hb dX6_lacks_92 ?_
            obtain ⟨hi, h⟩ := h
            refine M_ms0 hC hK hw hi dX6_lacks_93 (fun S40 H locs eS40 hw => ?_)
            replace h := h S40 eS40
            refine lv_aload_n hx hb dX6_lacks_94 rfl (lv_at hl 0 rfl) ?_
            refine mcallv (w1 := (wM g q)) (va_runV (As := []) (rest := []) hC (kX6_findLines l g  q H.size S40 J  _ h) (cwV 0 hts gX6_lacks_X6_findLines rfl rfl rfl (by decide +kernel) ⟨Nat.le_of_ble_eq_true rfl, Nat.le_of_ble_eq_true rfl⟩) (mpreV E0_ok hK hE hA hw (Sub1.refl _) 0 rfl rfl) rfl rfl hl.1 rfl (lv_room (Nat.le_of_ble_eq_true rfl)) dX6_lacks_95 ⟨Nat.zero_le _, Nat.zero_le _⟩) hA hw (Sub1.refl _) (fun _ => Sub.whole rfl) (fun u42 H locs h hw => ?_)
            obtain ⟨S43, J44⟩ := u42
            obtain ⟨hu, h⟩ := h
            replace hu : J = J44 := hu.symm
            subst hu
            refine lv_aload_n hx hb dX6_lacks_98 rfl (lv_at hl 0 rfl) ?_
            refine M_mg0 hC hinX6 hK hw (List.mem_of_getElem? (i := 2) rfl) dX6_lacks_99 ?_
            refine lv_bipush (v := (38 : Int32)) hx hb dX6_lacks_102 (by decide) ?_
            refine lv_iload hx hb dX6_lacks_104 (lv_at hl 3 rfl) ?_
            refine lv_iadd hx hb dX6_lacks_106 ?_
            refine lv_dup2_11 hx hb dX6_lacks_107 rfl rfl ?_
            obtain ⟨hi, h⟩ := h
            refine M_ml0 hC hK hw hi dX6_lacks_108 ?_
            refine lv_iconst (v := (1 : Int32)) hx hb dX6_lacks_109 (by decide) ?_
            refine lv_iload hx hb dX6_lacks_110 (lv_at hl 4 rfl) ?_
            refine lv_ishl hx hb dX6_lacks_112 ?_
            refine lv_iconst (v := (-1 : Int32)) hx hb dX6_lacks_113 (by decide) ?_
            refine lv_ixor hx hb dX6_lacks_114 ?_
            refine lv_iand hx hb dX6_lacks_115 ?_
            obtain ⟨hi, h⟩ := h
            refine M_ms0 hC hK hw hi dX6_lacks_116 (fun S45 H locs eS45 hw => ?_)
            replace h := h S45 eS45
            refine lv_aload_n hx hb dX6_lacks_117 rfl (lv_at hl 0 rfl) ?_
            refine M_mg20 hC hinX6 hK hw (List.mem_of_getElem? (i := 3) rfl) dX6_lacks_118 ?_
            refine lv_if_lt (tgt := 150) hx hb dX6_lacks_121 (by decide) (fun c59 => ?_) (fun c59 => ?_)
            · replace h := h.1 c59
              obtain ⟨x46, ex46⟩ : ∃ y : Int32, y = x24 + (1 : Int32) := ⟨_, rfl⟩
              refine lv_iinc (v := x46) (lv' := [(5, .int x46), (0, .ref (q 0)), (2, .int x22), (3, .int x23), (4, .int x9)]) hx hb dX6_lacks_150 hl (k := 4) rfl (by rw [ex46]; rfl) (by decide) rfl (fun ls hl => ?_)
              replace h := h x46 ex46
              refine lv_goto (tgt := 41) hx hb dX6_lacks_153 (by decide) ?_
              exact h _ _ _ hw (lv_sub hl [1, 2, 3, 4, 0] rfl)
            · replace h := h.2 c59
              refine lv_iload_n hx hb dX6_lacks_124 rfl (lv_at hl 1 rfl) ?_
              obtain ⟨J48, hJ49, h⟩ := h
              have join50 : ∀  (H : Heap) (locs : List Loc) (ls : Array Slot), J48 () → Wd g.1 A s.heap ((wM g q) (S45, J)) H locs → lv_has ls 6 [(0, .ref (q 0)), (4, .int x9), (5, .int x24)] → W p l e (rmm 7 172) s m args below meth c H locs 0 0 Q (F0 m 136 ls []) := by
                intro  H locs ls h hw hl
                replace h := hJ49 () h
                refine lv_bipush (v := (10 : Int32)) hx hb dX6_lacks_136 (by decide) ?_
                refine lv_iload hx hb dX6_lacks_138 (lv_at hl 1 rfl) ?_
                refine lv_imul hx hb dX6_lacks_140 ?_
                refine lv_iload hx hb dX6_lacks_141 (lv_at hl 2 rfl) ?_
                refine lv_iadd hx hb dX6_lacks_143 ?_
                refine lv_topi (fun x51 ex51 => ?_)
                replace h := h x51 ex51
                refine lv_istore_n (lv' := [(2, .int x51), (0, .ref (q 0)), (4, .int x9), (5, .int x24)]) hx hb dX6_lacks_144 rfl hl (by decide) rfl (fun ls hl => ?_)
                refine lv_aload_n hx hb dX6_lacks_145 rfl (lv_at hl 1 rfl) ?_
                refine M_mg20 hC hinX6 hK hw (List.mem_of_getElem? (i := 3) rfl) dX6_lacks_146 ?_
                refine lv_topi (fun x52 ex52 => ?_)
                replace h := h x52 ex52
                refine lv_istore_n (lv' := [(3, .int x52), (2, .int x51), (0, .ref (q 0)), (4, .int x9), (5, .int x24)]) hx hb dX6_lacks_149 rfl hl (by decide) rfl (fun ls hl => ?_)
                obtain ⟨x53, ex53⟩ : ∃ y : Int32, y = x24 + (1 : Int32) := ⟨_, rfl⟩
                refine lv_iinc (v := x53) (lv' := [(5, .int x53), (3, .int x52), (2, .int x51), (0, .ref (q 0)), (4, .int x9)]) hx hb dX6_lacks_150 hl (k := 4) rfl (by rw [ex53]; rfl) (by decide) rfl (fun ls hl => ?_)
                replace h := h x53 ex53
                refine lv_goto (tgt := 41) hx hb dX6_lacks_153 (by decide) ?_
                exact h _ _ _ hw (lv_sub hl [3, 2, 1, 4, 0] rfl)
              refine lv_if_lt (tgt := 136) hx hb dX6_lacks_125 (by decide) (fun c58 => ?_) (fun c58 => ?_)
              · replace h := h.1 c58
                exact join50  _ _ _ h hw (lv_sub hl [0, 3, 4] rfl)
              · replace h := h.2 c58
                refine lv_aload_n hx hb dX6_lacks_128 rfl (lv_at hl 0 rfl) ?_
                refine M_mg20 hC hinX6 hK hw (List.mem_of_getElem? (i := 3) rfl) dX6_lacks_129 ?_
                refine lv_iload_n hx hb dX6_lacks_132 rfl (lv_at hl 2 rfl) ?_
                refine lv_icmp_ge (tgt := 150) hx hb dX6_lacks_133 (by decide) (fun c57 => ?_) (fun c57 => ?_)
                · replace h := h.1 c57
                  obtain ⟨x55, ex55⟩ : ∃ y : Int32, y = x24 + (1 : Int32) := ⟨_, rfl⟩
                  refine lv_iinc (v := x55) (lv' := [(5, .int x55), (0, .ref (q 0)), (2, .int x22), (3, .int x23), (4, .int x9)]) hx hb dX6_lacks_150 hl (k := 4) rfl (by rw [ex55]; rfl) (by decide) rfl (fun ls hl => ?_)
                  replace h := h x55 ex55
                  refine lv_goto (tgt := 41) hx hb dX6_lacks_153 (by decide) ?_
                  exact h _ _ _ hw (lv_sub hl [1, 2, 3, 4, 0] rfl)
                · replace h := h.2 c57
                  exact join50  _ _ _ h hw (lv_sub hl [0, 3, 4] rfl)
  · replace h := h.1 c68
    refine lv_aload_n hx hb dX6_lacks_8 rfl (lv_at hl 0 rfl) ?_
    refine lv_ldc (v := (-1000000001 : Int32)) hx hb hown (hts (.constant RX6 68 (-1000000001)) (List.mem_of_getElem? (i := 1) rfl)) dX6_lacks_9 ?_
    refine mcalli (w1 := (wM g q)) (va_runV (As := [.int (-1000000001 : Int32)]) (rest := []) hC (kX6_finds l g  q H.size S J (-1000000001 : Int32) _ h) (cwV 1 hts gX6_lacks_X6_finds rfl rfl rfl (by decide +kernel) ⟨Nat.le_of_ble_eq_true rfl, Nat.le_of_ble_eq_true rfl⟩) (mpreV E0_ok hK hE hA hw (Sub1.refl _) 0 rfl rfl) rfl rfl hl.1 rfl (lv_room (Nat.le_of_ble_eq_true rfl)) dX6_lacks_11 ⟨Nat.zero_le _, Nat.zero_le _⟩) hA hw (Sub1.refl _) (fun _ => Sub.whole rfl) (fun r64 u65 H locs h hw => ?_)
    obtain ⟨S66, J67⟩ := u65
    obtain ⟨hu, h⟩ := h
    replace hu : J = J67 := hu.symm
    subst hu
    rw [hQ]
    exact mreti (w := (wM g q)) (u := (S66, J)) hC hr hlocks hK hw ⟨rfl, h⟩ dX6_lacks_14
def wX6_feed (S : Bun) (J : Lon) (a1 : Int32) (a2 : Int32) (post : Int32 → Bun → Prop) : Prop :=
  wX6_in a2.toInt64 (1 : Int64) (4 : Int64) (fun r1 => ((r1 = 0 → wX6_finds S J (-1000000001 : Int32) (fun r22 S24 => post r22 S24)) ∧ (¬ (r1 = 0) → ((((S 0 24) + a2) ≤ (120 : Int32) → ∀ x3 : Int32, x3 = a2 - (1 : Int32) → wloop (σ := Int32 × Bun) (fun K6 z => match z with | (x4, S5) => ((x4 < 0 → post (S5 0 24) S5) ∧ (¬ (x4 < 0) → vp_in (S5 0 24) 120 ∧ ∀ S12 : Bun, S12 = up S5 24 (S5 0 24).toNatClampNeg ((a1 >>> (((8 : Int32) * x4) &&& 31)) &&& (255 : Int32)) → ∀ S13 : Bun, S13 = up S12 0 24 ((S12 0 24) + (1 : Int32)) → ∀ x14 : Int32, x14 = x4 + (-1 : Int32) → K6 (x14, S13)))) (x3, S)) ∧ (¬ (((S 0 24) + a2) ≤ (120 : Int32)) → wX6_finds S J (-1000000002 : Int32) (fun r17 S19 => post r17 S19))))))
set_option maxRecDepth 100000 in
set_option maxHeartbeats 4000000 in
theorem kX6_feed (l : Launch) (g : Gl)  (q : Nat → Nat) (sz : Nat) (S : Bun) (J : Lon) (a1 : Int32) (a2 : Int32) (post : Int32 → Bun → Prop) (h : wX6_feed S J a1 a2 post) : Met l yX6_feed wsX6_feed (rmm 1 25) (wPc g E0 ((wM g q) (S, J)) sz [.ref (q 0), .int a1, .int a2]) (va_Qi (fun (r : Int32) (u : Bun × Lon) => u.2 = J ∧ post r u.1) (wB g (wM g q) (va_A ((wM g q) (S, J)) sz)) (va_A ((wM g q) (S, J)) sz)) 0 0 (va_A ((wM g q) (S, J)) sz) := by
  refine mstart (Qf := fun A => va_Qi (fun (r : Int32) (u : Bun × Lon) => u.2 = J ∧ post r u.1) (wB g (wM g q) A) A) (by decide) rfl (Nat.le_of_ble_eq_true rfl) ?_
  intro p e s m args below meth c A Q H locs ls hC hr hlocks hname hQ hA hK hE hw hl
  have hC : CallFix p m c cX6_feed 4 s args wsX6_feed RX6 := hC
  obtain ⟨hx, hb, -, hown, hts⟩ := id hC
  have hl : lv_has ls 4 [(0, .ref (q 0)), (1, .int a1), (2, .int a2)] := hl
  rw [wX6_feed] at h
  have hinX6 : ∀ w ∈ wsX60, w ∈ wsX6_feed := fun w hw9 => List.mem_cons_of_mem _ (List.mem_append_right _ hw9)
  refine lv_iload_n hx hb dX6_feed_0 rfl (lv_at hl 2 rfl) ?_
  refine lv_i2l (v := a2.toInt64) hx hb dX6_feed_1 rfl ?_
  refine lv_lconst (v := (1 : Int64)) hx hb dX6_feed_2 (by decide) ?_
  refine lv_ldc2 (v := (4 : Int64)) hx hb hown (hts (.constantLong RX6 220 (4)) (List.mem_of_getElem? (i := 1) rfl)) dX6_feed_3 ?_
  refine mcalli (w1 := (fun _ => (wM g q) (S, J))) (wc := fun _ : Unit => ([] : va_W)) (u := ()) (va_runS (As := [.long a2.toInt64, .long (1 : Int64), .long (4 : Int64)]) (rest := []) hC (kX6_in l g  H.size a2.toInt64 (1 : Int64) (4 : Int64) _ h) (va_cwS 3 hts gX6_feed_X6_in rfl rfl rfl (by decide +kernel) ⟨Nat.le_of_ble_eq_true rfl, Nat.le_of_ble_eq_true rfl⟩) (mpre E0_ok hK hE hA hw (Sub1.nil _)) rfl rfl hl.1 rfl (lv_room (Nat.le_of_ble_eq_true rfl)) dX6_feed_6 ⟨Nat.zero_le _, Nat.zero_le _⟩) hA hw (Sub1.nil _) (fun _ => Sub.nil _) (fun r1 u2 H locs h hw => ?_)
  obtain ⟨_, h⟩ := h
  refine lv_if_ne (tgt := 19) hx hb dX6_feed_9 (by decide) (fun c26 => ?_) (fun c26 => ?_)
  · replace h := h.2 c26
    refine lv_aload_n hx hb dX6_feed_19 rfl (lv_at hl 0 rfl) ?_
    refine M_mg24 hC hinX6 hK hw (List.mem_of_getElem? (i := 3) rfl) dX6_feed_20 ?_
    refine lv_iload_n hx hb dX6_feed_23 rfl (lv_at hl 2 rfl) ?_
    refine lv_iadd hx hb dX6_feed_24 ?_
    refine lv_bipush (v := (120 : Int32)) hx hb dX6_feed_25 (by decide) ?_
    refine lv_icmp_le (tgt := 37) hx hb dX6_feed_27 (by decide) (fun c21 => ?_) (fun c21 => ?_)
    · replace h := h.1 c21
      refine lv_iload_n hx hb dX6_feed_37 rfl (lv_at hl 2 rfl) ?_
      refine lv_iconst (v := (1 : Int32)) hx hb dX6_feed_38 (by decide) ?_
      refine lv_isub hx hb dX6_feed_39 ?_
      refine lv_topi (fun x3 ex3 => ?_)
      replace h := h x3 ex3
      refine lv_istore_n (lv' := [(3, .int x3), (0, .ref (q 0)), (1, .int a1), (2, .int a2)]) hx hb dX6_feed_40 rfl hl (by decide) rfl (fun ls hl => ?_)
      refine h (fun z => match z with | (x4, S5) => ∀ (H : Heap) (locs : List Loc) (ls : Array Slot), Wd g.1 A s.heap ((wM g q) (S5, J)) H locs → lv_has ls 4 [(0, .ref (q 0)), (1, .int a1), (3, .int x4)] → W p l e (rmm 1 25) s m args below meth c H locs 0 0 Q (F0 m 41 ls [])) ?_ _ _ _ hw (lv_sub hl [1, 2, 0] rfl)
      clear h hw hl
      rintro ⟨x4, S5⟩ h H locs ls hw hl
      refine lv_iload_n hx hb dX6_feed_41 rfl (lv_at hl 2 rfl) ?_
      refine lv_if_lt (tgt := 80) hx hb dX6_feed_42 (by decide) (fun c16 => ?_) (fun c16 => ?_)
      · replace h := h.1 c16
        refine lv_aload_n hx hb dX6_feed_80 rfl (lv_at hl 0 rfl) ?_
        refine M_mg24 hC hinX6 hK hw (List.mem_of_getElem? (i := 3) rfl) dX6_feed_81 ?_
        rw [hQ]
        exact mreti (w := (wM g q)) (u := (S5, J)) hC hr hlocks hK hw ⟨rfl, h⟩ dX6_feed_84
      · replace h := h.2 c16
        refine lv_aload_n hx hb dX6_feed_45 rfl (lv_at hl 0 rfl) ?_
        refine M_mg23 hC hinX6 hK hw (List.mem_of_getElem? (i := 5) rfl) dX6_feed_46 ?_
        refine lv_aload_n hx hb dX6_feed_49 rfl (lv_at hl 0 rfl) ?_
        refine M_mg24 hC hinX6 hK hw (List.mem_of_getElem? (i := 3) rfl) dX6_feed_50 ?_
        refine lv_iload_n hx hb dX6_feed_53 rfl (lv_at hl 1 rfl) ?_
        refine lv_bipush (v := (8 : Int32)) hx hb dX6_feed_54 (by decide) ?_
        refine lv_iload_n hx hb dX6_feed_56 rfl (lv_at hl 2 rfl) ?_
        refine lv_imul hx hb dX6_feed_57 ?_
        refine lv_ishr hx hb dX6_feed_58 ?_
        refine lv_sipush (v := (255 : Int32)) hx hb dX6_feed_59 (by decide) ?_
        refine lv_iand hx hb dX6_feed_62 ?_
        obtain ⟨hi, h⟩ := h
        refine M_ms23 hC hK hw hi dX6_feed_63 (fun S12 H locs eS12 hw => ?_)
        replace h := h S12 eS12
        refine lv_aload_n hx hb dX6_feed_64 rfl (lv_at hl 0 rfl) ?_
        refine lv_dup hx hb dX6_feed_65 rfl ?_
        refine M_mg24 hC hinX6 hK hw (List.mem_of_getElem? (i := 3) rfl) dX6_feed_66 ?_
        refine lv_iconst (v := (1 : Int32)) hx hb dX6_feed_69 (by decide) ?_
        refine lv_iadd hx hb dX6_feed_70 ?_
        refine M_mp24 hC hinX6 hK hw (List.mem_of_getElem? (i := 3) rfl) dX6_feed_71 (fun S13 H locs eS13 hw => ?_)
        replace h := h S13 eS13
        obtain ⟨x14, ex14⟩ : ∃ y : Int32, y = x4 + (-1 : Int32) := ⟨_, rfl⟩
        refine lv_iinc (v := x14) (lv' := [(3, .int x14), (0, .ref (q 0)), (1, .int a1)]) hx hb dX6_feed_74 hl (k := 2) rfl (by rw [ex14]; rfl) (by decide) rfl (fun ls hl => ?_)
        replace h := h x14 ex14
        refine lv_goto (tgt := 41) hx hb dX6_feed_77 (by decide) ?_
        exact h _ _ _ hw (lv_sub hl [1, 2, 0] rfl)
    · replace h := h.2 c21
      refine lv_aload_n hx hb dX6_feed_30 rfl (lv_at hl 0 rfl) ?_
      refine lv_ldc (v := (-1000000002 : Int32)) hx hb hown (hts (.constant RX6 78 (-1000000002)) (List.mem_of_getElem? (i := 4) rfl)) dX6_feed_31 ?_
      refine mcalli (w1 := (wM g q)) (va_runV (As := [.int (-1000000002 : Int32)]) (rest := []) hC (kX6_finds l g  q H.size S J (-1000000002 : Int32) _ h) (cwV 1 hts gX6_feed_X6_finds rfl rfl rfl (by decide +kernel) ⟨Nat.le_of_ble_eq_true rfl, Nat.le_of_ble_eq_true rfl⟩) (mpreV E0_ok hK hE hA hw (Sub1.refl _) 0 rfl rfl) rfl rfl hl.1 rfl (lv_room (Nat.le_of_ble_eq_true rfl)) dX6_feed_33 ⟨Nat.zero_le _, Nat.zero_le _⟩) hA hw (Sub1.refl _) (fun _ => Sub.whole rfl) (fun r17 u18 H locs h hw => ?_)
      obtain ⟨S19, J20⟩ := u18
      obtain ⟨hu, h⟩ := h
      replace hu : J = J20 := hu.symm
      subst hu
      rw [hQ]
      exact mreti (w := (wM g q)) (u := (S19, J)) hC hr hlocks hK hw ⟨rfl, h⟩ dX6_feed_36
  · replace h := h.1 c26
    refine lv_aload_n hx hb dX6_feed_12 rfl (lv_at hl 0 rfl) ?_
    refine lv_ldc (v := (-1000000001 : Int32)) hx hb hown (hts (.constant RX6 68 (-1000000001)) (List.mem_of_getElem? (i := 2) rfl)) dX6_feed_13 ?_
    refine mcalli (w1 := (wM g q)) (va_runV (As := [.int (-1000000001 : Int32)]) (rest := []) hC (kX6_finds l g  q H.size S J (-1000000001 : Int32) _ h) (cwV 1 hts gX6_feed_X6_finds rfl rfl rfl (by decide +kernel) ⟨Nat.le_of_ble_eq_true rfl, Nat.le_of_ble_eq_true rfl⟩) (mpreV E0_ok hK hE hA hw (Sub1.refl _) 0 rfl rfl) rfl rfl hl.1 rfl (lv_room (Nat.le_of_ble_eq_true rfl)) dX6_feed_15 ⟨Nat.zero_le _, Nat.zero_le _⟩) hA hw (Sub1.refl _) (fun _ => Sub.whole rfl) (fun r22 u23 H locs h hw => ?_)
    obtain ⟨S24, J25⟩ := u23
    obtain ⟨hu, h⟩ := h
    replace hu : J = J25 := hu.symm
    subst hu
    rw [hQ]
    exact mreti (w := (wM g q)) (u := (S24, J)) hC hr hlocks hK hw ⟨rfl, h⟩ dX6_feed_18
def wX6_wipe (S : Bun) (J : Lon)  (post : Int32 → Bun → Prop) : Prop :=
  ∀ x1 : Int32, x1 = S 0 24 → ∀ S2 : Bun, S2 = up S 0 24 (0 : Int32) → post x1 S2
set_option maxRecDepth 100000 in
set_option maxHeartbeats 4000000 in
theorem kX6_wipe (l : Launch) (g : Gl)  (q : Nat → Nat) (sz : Nat) (S : Bun) (J : Lon)  (post : Int32 → Bun → Prop) (h : wX6_wipe S J  post) : Met l yX6_wipe wsX6_wipe (rmm 0 0) (wPc g E0 ((wM g q) (S, J)) sz [.ref (q 0)]) (va_Qi (fun (r : Int32) (u : Bun × Lon) => u.2 = J ∧ post r u.1) (wB g (wM g q) (va_A ((wM g q) (S, J)) sz)) (va_A ((wM g q) (S, J)) sz)) 0 0 (va_A ((wM g q) (S, J)) sz) := by
  refine mstart (Qf := fun A => va_Qi (fun (r : Int32) (u : Bun × Lon) => u.2 = J ∧ post r u.1) (wB g (wM g q) A) A) (by decide) rfl (Nat.le_of_ble_eq_true rfl) ?_
  intro p e s m args below meth c A Q H locs ls hC hr hlocks hname hQ hA hK hE hw hl
  have hC : CallFix p m c cX6_wipe 2 s args wsX6_wipe RX6 := hC
  obtain ⟨hx, hb, -, hown, hts⟩ := id hC
  have hl : lv_has ls 2 [(0, .ref (q 0))] := hl
  rw [wX6_wipe] at h
  have hinX6 : ∀ w ∈ wsX60, w ∈ wsX6_wipe := fun w hw9 => List.mem_cons_of_mem _ (List.mem_append_right _ hw9)
  refine lv_aload_n hx hb dX6_wipe_0 rfl (lv_at hl 0 rfl) ?_
  refine M_mg24 hC hinX6 hK hw (List.mem_of_getElem? (i := 1) rfl) dX6_wipe_1 ?_
  refine lv_topi (fun x1 ex1 => ?_)
  replace h := h x1 ex1
  refine lv_istore_n (lv' := [(1, .int x1), (0, .ref (q 0))]) hx hb dX6_wipe_4 rfl hl (by decide) rfl (fun ls hl => ?_)
  refine lv_aload_n hx hb dX6_wipe_5 rfl (lv_at hl 1 rfl) ?_
  refine lv_iconst (v := (0 : Int32)) hx hb dX6_wipe_6 (by decide) ?_
  refine M_mp24 hC hinX6 hK hw (List.mem_of_getElem? (i := 1) rfl) dX6_wipe_7 (fun S2 H locs eS2 hw => ?_)
  replace h := h S2 eS2
  refine lv_iload_n hx hb dX6_wipe_10 rfl (lv_at hl 0 rfl) ?_
  rw [hQ]
  exact mreti (w := (wM g q)) (u := (S2, J)) hC hr hlocks hK hw ⟨rfl, h⟩ dX6_wipe_11
def wX6_byteAt (S : Bun) (J : Lon) (a1 : Int32) (post : Int32 → Prop) : Prop :=
  (((S 0 24) ≤ a1 → post (-1 : Int32)) ∧ (¬ ((S 0 24) ≤ a1) → vp_in a1 120 ∧ post (S 24 a1.toNatClampNeg)))
set_option maxRecDepth 100000 in
set_option maxHeartbeats 4000000 in
theorem kX6_byteAt (l : Launch) (g : Gl)  (q : Nat → Nat) (sz : Nat) (S : Bun) (J : Lon) (a1 : Int32) (post : Int32 → Prop) (h : wX6_byteAt S J a1 post) : Met l yX6_byteAt wsX6_byteAt (rmm 0 0) (wPc g E0 ((wM g q) (S, J)) sz [.ref (q 0), .int a1]) (va_Qi (fun (r : Int32) (u : Bun × Lon) => u = (S, J) ∧ post r) (wB g (wM g q) (va_A ((wM g q) (S, J)) sz)) (va_A ((wM g q) (S, J)) sz)) 0 0 (va_A ((wM g q) (S, J)) sz) := by
  refine mstart (Qf := fun A => va_Qi (fun (r : Int32) (u : Bun × Lon) => u = (S, J) ∧ post r) (wB g (wM g q) A) A) (by decide) rfl (Nat.le_of_ble_eq_true rfl) ?_
  intro p e s m args below meth c A Q H locs ls hC hr hlocks hname hQ hA hK hE hw hl
  have hC : CallFix p m c cX6_byteAt 2 s args wsX6_byteAt RX6 := hC
  obtain ⟨hx, hb, -, hown, hts⟩ := id hC
  have hl : lv_has ls 2 [(0, .ref (q 0)), (1, .int a1)] := hl
  rw [wX6_byteAt] at h
  have hinX6 : ∀ w ∈ wsX60, w ∈ wsX6_byteAt := fun w hw9 => List.mem_cons_of_mem _ (List.mem_append_right _ hw9)
  refine lv_iload_n hx hb dX6_byteAt_0 rfl (lv_at hl 1 rfl) ?_
  refine lv_aload_n hx hb dX6_byteAt_1 rfl (lv_at hl 0 rfl) ?_
  refine M_mg24 hC hinX6 hK hw (List.mem_of_getElem? (i := 1) rfl) dX6_byteAt_2 ?_
  refine lv_icmp_ge (tgt := 17) hx hb dX6_byteAt_5 (by decide) (fun c1 => ?_) (fun c1 => ?_)
  · replace h := h.1 c1
    refine lv_iconst (v := (-1 : Int32)) hx hb dX6_byteAt_17 (by decide) ?_
    rw [hQ]
    exact mreti (w := (wM g q)) (u := (S, J)) hC hr hlocks hK hw ⟨rfl, h⟩ dX6_byteAt_18
  · replace h := h.2 c1
    refine lv_aload_n hx hb dX6_byteAt_8 rfl (lv_at hl 0 rfl) ?_
    refine M_mg23 hC hinX6 hK hw (List.mem_of_getElem? (i := 2) rfl) dX6_byteAt_9 ?_
    refine lv_iload_n hx hb dX6_byteAt_12 rfl (lv_at hl 1 rfl) ?_
    obtain ⟨hi, h⟩ := h
    refine M_ml23 hC hK hw hi dX6_byteAt_13 ?_
    refine lv_goto (tgt := 18) hx hb dX6_byteAt_14 (by decide) ?_
    rw [hQ]
    exact mreti (w := (wM g q)) (u := (S, J)) hC hr hlocks hK hw ⟨rfl, h⟩ dX6_byteAt_18
def wX6_isLetter  (a1 : Int32) (post : Int32 → Prop) : Prop :=
  wX6_in a1.toInt64 (97 : Int64) (122 : Int64) (fun r1 => zb r1 ∧ post r1)
set_option maxRecDepth 100000 in
set_option maxHeartbeats 4000000 in
theorem kX6_isLetter (l : Launch) (g : Gl)   (sz : Nat)  (a1 : Int32) (post : Int32 → Prop) (h : wX6_isLetter  a1 post) : Met l yX6_isLetter wsX6_isLetter (rmm 1 25) (wPc g E0 (([] : va_W)) sz [.int a1]) (va_Qi (fun (r : Int32) (u : Unit) => u = () ∧ post r) (wB g (fun _ : Unit => ([] : va_W)) (va_A (([] : va_W)) sz)) (va_A (([] : va_W)) sz)) 0 0 (va_A (([] : va_W)) sz) := by
  refine mstart (Qf := fun A => va_Qi (fun (r : Int32) (u : Unit) => u = () ∧ post r) (wB g (fun _ : Unit => ([] : va_W)) A) A) (by decide) rfl (Nat.le_of_ble_eq_true rfl) ?_
  intro p e s m args below meth c A Q H locs ls hC hr hlocks hname hQ hA hK hE hw hl
  have hC : CallFix p m c cX6_isLetter 1 s args wsX6_isLetter RX6 := hC
  obtain ⟨hx, hb, -, hown, hts⟩ := id hC
  have hl : lv_has ls 1 [(0, .int a1)] := hl
  rw [wX6_isLetter] at h
  refine lv_iload_n hx hb dX6_isLetter_0 rfl (lv_at hl 0 rfl) ?_
  refine lv_i2l (v := a1.toInt64) hx hb dX6_isLetter_1 rfl ?_
  refine lv_ldc2 (v := (97 : Int64)) hx hb hown (hts (.constantLong RX6 225 (97)) (List.mem_of_getElem? (i := 1) rfl)) dX6_isLetter_2 ?_
  refine lv_ldc2 (v := (122 : Int64)) hx hb hown (hts (.constantLong RX6 227 (122)) (List.mem_of_getElem? (i := 2) rfl)) dX6_isLetter_5 ?_
  refine mcalli (w1 := (fun _ => ([] : va_W))) (wc := fun _ : Unit => ([] : va_W)) (u := ()) (va_runS (As := [.long a1.toInt64, .long (97 : Int64), .long (122 : Int64)]) (rest := []) hC (kX6_in l g  H.size a1.toInt64 (97 : Int64) (122 : Int64) _ h) (va_cwS 3 hts gX6_isLetter_X6_in rfl rfl rfl (by decide +kernel) ⟨Nat.le_of_ble_eq_true rfl, Nat.le_of_ble_eq_true rfl⟩) (mpre E0_ok hK hE hA hw (Sub1.nil _)) rfl rfl hl.1 rfl (lv_room (Nat.le_of_ble_eq_true rfl)) dX6_isLetter_8 ⟨Nat.zero_le _, Nat.zero_le _⟩) hA hw (Sub1.nil _) (fun _ => Sub.nil _) (fun r1 u2 H locs h hw => ?_)
  obtain ⟨_, h⟩ := h
  obtain ⟨hz, h⟩ := h
  rw [hQ]
  exact mretz (w := (fun _ : Unit => ([] : va_W))) (u := ()) hC hr hlocks hK hw hz ⟨rfl, h⟩ dX6_isLetter_11
def wX6_isDigit  (a1 : Int32) (post : Int32 → Prop) : Prop :=
  wX6_in a1.toInt64 (48 : Int64) (57 : Int64) (fun r1 => zb r1 ∧ post r1)
set_option maxRecDepth 100000 in
set_option maxHeartbeats 4000000 in
theorem kX6_isDigit (l : Launch) (g : Gl)   (sz : Nat)  (a1 : Int32) (post : Int32 → Prop) (h : wX6_isDigit  a1 post) : Met l yX6_isDigit wsX6_isDigit (rmm 1 25) (wPc g E0 (([] : va_W)) sz [.int a1]) (va_Qi (fun (r : Int32) (u : Unit) => u = () ∧ post r) (wB g (fun _ : Unit => ([] : va_W)) (va_A (([] : va_W)) sz)) (va_A (([] : va_W)) sz)) 0 0 (va_A (([] : va_W)) sz) := by
  refine mstart (Qf := fun A => va_Qi (fun (r : Int32) (u : Unit) => u = () ∧ post r) (wB g (fun _ : Unit => ([] : va_W)) A) A) (by decide) rfl (Nat.le_of_ble_eq_true rfl) ?_
  intro p e s m args below meth c A Q H locs ls hC hr hlocks hname hQ hA hK hE hw hl
  have hC : CallFix p m c cX6_isDigit 1 s args wsX6_isDigit RX6 := hC
  obtain ⟨hx, hb, -, hown, hts⟩ := id hC
  have hl : lv_has ls 1 [(0, .int a1)] := hl
  rw [wX6_isDigit] at h
  refine lv_iload_n hx hb dX6_isDigit_0 rfl (lv_at hl 0 rfl) ?_
  refine lv_i2l (v := a1.toInt64) hx hb dX6_isDigit_1 rfl ?_
  refine lv_ldc2 (v := (48 : Int64)) hx hb hown (hts (.constantLong RX6 229 (48)) (List.mem_of_getElem? (i := 1) rfl)) dX6_isDigit_2 ?_
  refine lv_ldc2 (v := (57 : Int64)) hx hb hown (hts (.constantLong RX6 231 (57)) (List.mem_of_getElem? (i := 2) rfl)) dX6_isDigit_5 ?_
  refine mcalli (w1 := (fun _ => ([] : va_W))) (wc := fun _ : Unit => ([] : va_W)) (u := ()) (va_runS (As := [.long a1.toInt64, .long (48 : Int64), .long (57 : Int64)]) (rest := []) hC (kX6_in l g  H.size a1.toInt64 (48 : Int64) (57 : Int64) _ h) (va_cwS 3 hts gX6_isDigit_X6_in rfl rfl rfl (by decide +kernel) ⟨Nat.le_of_ble_eq_true rfl, Nat.le_of_ble_eq_true rfl⟩) (mpre E0_ok hK hE hA hw (Sub1.nil _)) rfl rfl hl.1 rfl (lv_room (Nat.le_of_ble_eq_true rfl)) dX6_isDigit_8 ⟨Nat.zero_le _, Nat.zero_le _⟩) hA hw (Sub1.nil _) (fun _ => Sub.nil _) (fun r1 u2 H locs h hw => ?_)
  obtain ⟨_, h⟩ := h
  obtain ⟨hz, h⟩ := h
  rw [hQ]
  exact mretz (w := (fun _ : Unit => ([] : va_W))) (u := ()) hC hr hlocks hK hw hz ⟨rfl, h⟩ dX6_isDigit_11
def wX6_token (S : Bun) (J : Lon)  (post : Bun → Prop) : Prop :=
  ∀ S1 : Bun, S1 = up S 0 25 (S 0 26) → wloop (σ := Bun) (fun K3 S2 => wX6_byteAt S2 J (S2 0 25) (fun r9 => ((r9 = (32 : Int32) → ∀ S52 : Bun, S52 = up S2 0 25 ((S2 0 25) + (1 : Int32)) → K3 S52) ∧ (¬ (r9 = (32 : Int32)) → wX6_byteAt S2 J (S2 0 25) (fun r11 => wX6_isLetter r11 (fun r13 => wX6_byteAt S2 J (S2 0 25) (fun r15 => wX6_isDigit r15 (fun r17 => wjoin (σ := Int32) (fun y19 => ∀ S23 : Bun, S23 = up S2 0 26 y19 → wloop (σ := Bun) (fun K25 S24 => wjoin (σ := Unit) (fun _ => ∀ S34 : Bun, S34 = up S24 0 26 ((S24 0 26) + (1 : Int32)) → K25 S34) (fun J31 => wjoin (σ := Unit) (fun _ => ((r17 = 0 → post S24) ∧ (¬ (r17 = 0) → wX6_byteAt S24 J (S24 0 26) (fun r39 => wX6_isDigit r39 (fun r41 => ((r41 = 0 → post S24) ∧ (¬ (r41 = 0) → J31 ()))))))) (fun J36 => ((r13 = 0 → J36 ()) ∧ (¬ (r13 = 0) → wX6_byteAt S24 J (S24 0 26) (fun r45 => wX6_isLetter r45 (fun r47 => ((r47 = 0 → J36 ()) ∧ (¬ (r47 = 0) → J31 ()))))))))) S23) (fun J20 => (((S2 0 24) ≤ (S2 0 25) → J20 (S2 0 25)) ∧ (¬ ((S2 0 24) ≤ (S2 0 25)) → J20 ((S2 0 25) + (1 : Int32))))))))))))) S1
set_option maxRecDepth 100000 in
set_option maxHeartbeats 4000000 in
theorem kX6_token (l : Launch) (g : Gl)  (q : Nat → Nat) (sz : Nat) (S : Bun) (J : Lon)  (post : Bun → Prop) (h : wX6_token S J  post) : Met l yX6_token wsX6_token (rmm 2 45) (wPc g E0 ((wM g q) (S, J)) sz [.ref (q 0)]) (va_Qv (fun (u : Bun × Lon) => u.2 = J ∧ post u.1) (wB g (wM g q) (va_A ((wM g q) (S, J)) sz)) (va_A ((wM g q) (S, J)) sz)) 0 0 (va_A ((wM g q) (S, J)) sz) := by
  refine mstart (Qf := fun A => va_Qv (fun (u : Bun × Lon) => u.2 = J ∧ post u.1) (wB g (wM g q) A) A) (by decide) rfl (Nat.le_of_ble_eq_true rfl) ?_
  intro p e s m args below meth c A Q H locs ls hC hr hlocks hname hQ hA hK hE hw hl
  have hC : CallFix p m c cX6_token 3 s args wsX6_token RX6 := hC
  obtain ⟨hx, hb, -, hown, hts⟩ := id hC
  have hl : lv_has ls 3 [(0, .ref (q 0))] := hl
  rw [wX6_token] at h
  have hinX6 : ∀ w ∈ wsX60, w ∈ wsX6_token := fun w hw9 => List.mem_cons_of_mem _ (List.mem_append_right _ hw9)
  refine lv_aload_n hx hb dX6_token_0 rfl (lv_at hl 0 rfl) ?_
  refine lv_aload_n hx hb dX6_token_1 rfl (lv_at hl 0 rfl) ?_
  refine M_mg26 hC hinX6 hK hw (List.mem_of_getElem? (i := 1) rfl) dX6_token_2 ?_
  refine M_mp25 hC hinX6 hK hw (List.mem_of_getElem? (i := 2) rfl) dX6_token_5 (fun S1 H locs eS1 hw => ?_)
  replace h := h S1 eS1
  refine h (fun S2 => ∀ (H : Heap) (locs : List Loc) (ls : Array Slot), Wd g.1 A s.heap ((wM g q) (S2, J)) H locs → lv_has ls 3 [(0, .ref (q 0))] → W p l e (rmm 2 45) s m args below meth c H locs 0 0 Q (F0 m 8 ls [])) ?_ _ _ _ hw (lv_sub hl [0] rfl)
  clear h hw hl
  rintro S2 h H locs ls hw hl
  refine lv_aload_n hx hb dX6_token_8 rfl (lv_at hl 0 rfl) ?_
  refine lv_aload_n hx hb dX6_token_9 rfl (lv_at hl 0 rfl) ?_
  refine M_mg25 hC hinX6 hK hw (List.mem_of_getElem? (i := 2) rfl) dX6_token_10 ?_
  refine mcalli (w1 := (wM g q)) (va_runV (As := [.int (S2 0 25)]) (rest := []) hC (kX6_byteAt l g  q H.size S2 J (S2 0 25) _ h) (cwV 1 hts gX6_token_X6_byteAt rfl rfl rfl (by decide +kernel) ⟨Nat.le_of_ble_eq_true rfl, Nat.le_of_ble_eq_true rfl⟩) (mpreV E0_ok hK hE hA hw (Sub1.refl _) 0 rfl rfl) rfl rfl hl.1 rfl (lv_room (Nat.le_of_ble_eq_true rfl)) dX6_token_13 ⟨Nat.zero_le _, Nat.zero_le _⟩) hA hw (Sub1.refl _) (fun _ => Sub.whole rfl) (fun r9 u10 H locs h hw => ?_)
  obtain ⟨hu, h⟩ := h
  replace hu := hu.symm
  subst hu
  refine lv_bipush (v := (32 : Int32)) hx hb dX6_token_16 (by decide) ?_
  refine lv_icmp_ne (tgt := 34) hx hb dX6_token_18 (by decide) (fun c54 => ?_) (fun c54 => ?_)
  · replace h := h.2 c54
    refine lv_aload_n hx hb dX6_token_34 rfl (lv_at hl 0 rfl) ?_
    refine lv_aload_n hx hb dX6_token_35 rfl (lv_at hl 0 rfl) ?_
    refine M_mg25 hC hinX6 hK hw (List.mem_of_getElem? (i := 2) rfl) dX6_token_36 ?_
    refine mcalli (w1 := (wM g q)) (va_runV (As := [.int (S2 0 25)]) (rest := []) hC (kX6_byteAt l g  q H.size S2 J (S2 0 25) _ h) (cwV 1 hts gX6_token_X6_byteAt rfl rfl rfl (by decide +kernel) ⟨Nat.le_of_ble_eq_true rfl, Nat.le_of_ble_eq_true rfl⟩) (mpreV E0_ok hK hE hA hw (Sub1.refl _) 0 rfl rfl) rfl rfl hl.1 rfl (lv_room (Nat.le_of_ble_eq_true rfl)) dX6_token_39 ⟨Nat.zero_le _, Nat.zero_le _⟩) hA hw (Sub1.refl _) (fun _ => Sub.whole rfl) (fun r11 u12 H locs h hw => ?_)
    obtain ⟨hu, h⟩ := h
    replace hu := hu.symm
    subst hu
    refine mcalli (w1 := (fun _ => (wM g q) (S2, J))) (wc := fun _ : Unit => ([] : va_W)) (u := ()) (va_runS (As := [.int r11]) (rest := []) hC (kX6_isLetter l g  H.size r11 _ h) (va_cwS 1 hts gX6_token_X6_isLetter rfl rfl rfl (by decide +kernel) ⟨Nat.le_of_ble_eq_true rfl, Nat.le_of_ble_eq_true rfl⟩) (mpre E0_ok hK hE hA hw (Sub1.nil _)) rfl rfl hl.1 rfl (lv_room (Nat.le_of_ble_eq_true rfl)) dX6_token_42 ⟨Nat.zero_le _, Nat.zero_le _⟩) hA hw (Sub1.nil _) (fun _ => Sub.nil _) (fun r13 u14 H locs h hw => ?_)
    obtain ⟨_, h⟩ := h
    refine lv_istore_n (lv' := [(1, .int r13), (0, .ref (q 0))]) hx hb dX6_token_45 rfl hl (by decide) rfl (fun ls hl => ?_)
    refine lv_aload_n hx hb dX6_token_46 rfl (lv_at hl 1 rfl) ?_
    refine lv_aload_n hx hb dX6_token_47 rfl (lv_at hl 1 rfl) ?_
    refine M_mg25 hC hinX6 hK hw (List.mem_of_getElem? (i := 2) rfl) dX6_token_48 ?_
    refine mcalli (w1 := (wM g q)) (va_runV (As := [.int (S2 0 25)]) (rest := []) hC (kX6_byteAt l g  q H.size S2 J (S2 0 25) _ h) (cwV 1 hts gX6_token_X6_byteAt rfl rfl rfl (by decide +kernel) ⟨Nat.le_of_ble_eq_true rfl, Nat.le_of_ble_eq_true rfl⟩) (mpreV E0_ok hK hE hA hw (Sub1.refl _) 0 rfl rfl) rfl rfl hl.1 rfl (lv_room (Nat.le_of_ble_eq_true rfl)) dX6_token_51 ⟨Nat.zero_le _, Nat.zero_le _⟩) hA hw (Sub1.refl _) (fun _ => Sub.whole rfl) (fun r15 u16 H locs h hw => ?_)
    obtain ⟨hu, h⟩ := h
    replace hu := hu.symm
    subst hu
    refine mcalli (w1 := (fun _ => (wM g q) (S2, J))) (wc := fun _ : Unit => ([] : va_W)) (u := ()) (va_runS (As := [.int r15]) (rest := []) hC (kX6_isDigit l g  H.size r15 _ h) (va_cwS 1 hts gX6_token_X6_isDigit rfl rfl rfl (by decide +kernel) ⟨Nat.le_of_ble_eq_true rfl, Nat.le_of_ble_eq_true rfl⟩) (mpre E0_ok hK hE hA hw (Sub1.nil _)) rfl rfl hl.1 rfl (lv_room (Nat.le_of_ble_eq_true rfl)) dX6_token_54 ⟨Nat.zero_le _, Nat.zero_le _⟩) hA hw (Sub1.nil _) (fun _ => Sub.nil _) (fun r17 u18 H locs h hw => ?_)
    obtain ⟨_, h⟩ := h
    refine lv_istore_n (lv' := [(2, .int r17), (1, .int r13), (0, .ref (q 0))]) hx hb dX6_token_57 rfl hl (by decide) rfl (fun ls hl => ?_)
    refine lv_aload_n hx hb dX6_token_58 rfl (lv_at hl 2 rfl) ?_
    refine lv_aload_n hx hb dX6_token_59 rfl (lv_at hl 2 rfl) ?_
    refine M_mg25 hC hinX6 hK hw (List.mem_of_getElem? (i := 2) rfl) dX6_token_60 ?_
    refine lv_aload_n hx hb dX6_token_63 rfl (lv_at hl 2 rfl) ?_
    refine M_mg24 hC hinX6 hK hw (List.mem_of_getElem? (i := 3) rfl) dX6_token_64 ?_
    obtain ⟨J20, hJ21, h⟩ := h
    have join22 : ∀ (y19 : Int32) (H : Heap) (locs : List Loc) (ls : Array Slot), J20 y19 → Wd g.1 A s.heap ((wM g q) (S2, J)) H locs → lv_has ls 3 [(0, .ref (q 0)), (1, .int r13), (2, .int r17)] → W p l e (rmm 2 45) s m args below meth c H locs 0 0 Q (F0 m 83 ls [.int y19, .ref (q 0)]) := by
      intro y19 H locs ls h hw hl
      replace h := hJ21 y19 h
      refine M_mp26 hC hinX6 hK hw (List.mem_of_getElem? (i := 1) rfl) dX6_token_83 (fun S23 H locs eS23 hw => ?_)
      replace h := h S23 eS23
      refine h (fun S24 => ∀ (H : Heap) (locs : List Loc) (ls : Array Slot), Wd g.1 A s.heap ((wM g q) (S24, J)) H locs → lv_has ls 3 [(0, .ref (q 0)), (1, .int r13), (2, .int r17)] → W p l e (rmm 2 45) s m args below meth c H locs 0 0 Q (F0 m 86 ls [])) ?_ _ _ _ hw (lv_sub hl [0, 1, 2] rfl)
      clear h hw hl
      rintro S24 h H locs ls hw hl
      refine lv_iload_n hx hb dX6_token_86 rfl (lv_at hl 1 rfl) ?_
      obtain ⟨J31, hJ32, h⟩ := h
      have join33 : ∀  (H : Heap) (locs : List Loc) (ls : Array Slot), J31 () → Wd g.1 A s.heap ((wM g q) (S24, J)) H locs → lv_has ls 3 [(0, .ref (q 0)), (1, .int r13), (2, .int r17)] → W p l e (rmm 2 45) s m args below meth c H locs 0 0 Q (F0 m 122 ls []) := by
        intro  H locs ls h hw hl
        replace h := hJ32 () h
        refine lv_aload_n hx hb dX6_token_122 rfl (lv_at hl 0 rfl) ?_
        refine lv_dup hx hb dX6_token_123 rfl ?_
        refine M_mg26 hC hinX6 hK hw (List.mem_of_getElem? (i := 1) rfl) dX6_token_124 ?_
        refine lv_iconst (v := (1 : Int32)) hx hb dX6_token_127 (by decide) ?_
        refine lv_iadd hx hb dX6_token_128 ?_
        refine M_mp26 hC hinX6 hK hw (List.mem_of_getElem? (i := 1) rfl) dX6_token_129 (fun S34 H locs eS34 hw => ?_)
        replace h := h S34 eS34
        refine lv_goto (tgt := 86) hx hb dX6_token_132 (by decide) ?_
        exact h _ _ _ hw (lv_sub hl [0, 1, 2] rfl)
      obtain ⟨J36, hJ37, h⟩ := h
      have join38 : ∀  (H : Heap) (locs : List Loc) (ls : Array Slot), J36 () → Wd g.1 A s.heap ((wM g q) (S24, J)) H locs → lv_has ls 3 [(0, .ref (q 0)), (1, .int r13), (2, .int r17)] → W p l e (rmm 2 45) s m args below meth c H locs 0 0 Q (F0 m 104 ls []) := by
        intro  H locs ls h hw hl
        replace h := hJ37 () h
        refine lv_iload_n hx hb dX6_token_104 rfl (lv_at hl 2 rfl) ?_
        refine lv_if_eq (tgt := 135) hx hb dX6_token_105 (by decide) (fun c44 => ?_) (fun c44 => ?_)
        · replace h := h.1 c44
          rw [hQ]
          exact mretv (w := (wM g q)) (u := (S24, J)) hC hr hlocks hK hw ⟨rfl, h⟩ dX6_token_135
        · replace h := h.2 c44
          refine lv_aload_n hx hb dX6_token_108 rfl (lv_at hl 0 rfl) ?_
          refine lv_aload_n hx hb dX6_token_109 rfl (lv_at hl 0 rfl) ?_
          refine M_mg26 hC hinX6 hK hw (List.mem_of_getElem? (i := 1) rfl) dX6_token_110 ?_
          refine mcalli (w1 := (wM g q)) (va_runV (As := [.int (S24 0 26)]) (rest := []) hC (kX6_byteAt l g  q H.size S24 J (S24 0 26) _ h) (cwV 1 hts gX6_token_X6_byteAt rfl rfl rfl (by decide +kernel) ⟨Nat.le_of_ble_eq_true rfl, Nat.le_of_ble_eq_true rfl⟩) (mpreV E0_ok hK hE hA hw (Sub1.refl _) 0 rfl rfl) rfl rfl hl.1 rfl (lv_room (Nat.le_of_ble_eq_true rfl)) dX6_token_113 ⟨Nat.zero_le _, Nat.zero_le _⟩) hA hw (Sub1.refl _) (fun _ => Sub.whole rfl) (fun r39 u40 H locs h hw => ?_)
          obtain ⟨hu, h⟩ := h
          replace hu := hu.symm
          subst hu
          refine mcalli (w1 := (fun _ => (wM g q) (S24, J))) (wc := fun _ : Unit => ([] : va_W)) (u := ()) (va_runS (As := [.int r39]) (rest := []) hC (kX6_isDigit l g  H.size r39 _ h) (va_cwS 1 hts gX6_token_X6_isDigit rfl rfl rfl (by decide +kernel) ⟨Nat.le_of_ble_eq_true rfl, Nat.le_of_ble_eq_true rfl⟩) (mpre E0_ok hK hE hA hw (Sub1.nil _)) rfl rfl hl.1 rfl (lv_room (Nat.le_of_ble_eq_true rfl)) dX6_token_116 ⟨Nat.zero_le _, Nat.zero_le _⟩) hA hw (Sub1.nil _) (fun _ => Sub.nil _) (fun r41 u42 H locs h hw => ?_)
          obtain ⟨_, h⟩ := h
          refine lv_if_eq (tgt := 135) hx hb dX6_token_119 (by decide) (fun c43 => ?_) (fun c43 => ?_)
          · replace h := h.1 c43
            rw [hQ]
            exact mretv (w := (wM g q)) (u := (S24, J)) hC hr hlocks hK hw ⟨rfl, h⟩ dX6_token_135
          · replace h := h.2 c43
            exact join33  _ _ _ h hw (lv_sub hl [0, 1, 2] rfl)
      refine lv_if_eq (tgt := 104) hx hb dX6_token_87 (by decide) (fun c50 => ?_) (fun c50 => ?_)
      · replace h := h.1 c50
        exact join38  _ _ _ h hw (lv_sub hl [0, 1, 2] rfl)
      · replace h := h.2 c50
        refine lv_aload_n hx hb dX6_token_90 rfl (lv_at hl 0 rfl) ?_
        refine lv_aload_n hx hb dX6_token_91 rfl (lv_at hl 0 rfl) ?_
        refine M_mg26 hC hinX6 hK hw (List.mem_of_getElem? (i := 1) rfl) dX6_token_92 ?_
        refine mcalli (w1 := (wM g q)) (va_runV (As := [.int (S24 0 26)]) (rest := []) hC (kX6_byteAt l g  q H.size S24 J (S24 0 26) _ h) (cwV 1 hts gX6_token_X6_byteAt rfl rfl rfl (by decide +kernel) ⟨Nat.le_of_ble_eq_true rfl, Nat.le_of_ble_eq_true rfl⟩) (mpreV E0_ok hK hE hA hw (Sub1.refl _) 0 rfl rfl) rfl rfl hl.1 rfl (lv_room (Nat.le_of_ble_eq_true rfl)) dX6_token_95 ⟨Nat.zero_le _, Nat.zero_le _⟩) hA hw (Sub1.refl _) (fun _ => Sub.whole rfl) (fun r45 u46 H locs h hw => ?_)
        obtain ⟨hu, h⟩ := h
        replace hu := hu.symm
        subst hu
        refine mcalli (w1 := (fun _ => (wM g q) (S24, J))) (wc := fun _ : Unit => ([] : va_W)) (u := ()) (va_runS (As := [.int r45]) (rest := []) hC (kX6_isLetter l g  H.size r45 _ h) (va_cwS 1 hts gX6_token_X6_isLetter rfl rfl rfl (by decide +kernel) ⟨Nat.le_of_ble_eq_true rfl, Nat.le_of_ble_eq_true rfl⟩) (mpre E0_ok hK hE hA hw (Sub1.nil _)) rfl rfl hl.1 rfl (lv_room (Nat.le_of_ble_eq_true rfl)) dX6_token_98 ⟨Nat.zero_le _, Nat.zero_le _⟩) hA hw (Sub1.nil _) (fun _ => Sub.nil _) (fun r47 u48 H locs h hw => ?_)
        obtain ⟨_, h⟩ := h
        refine lv_if_ne (tgt := 122) hx hb dX6_token_101 (by decide) (fun c49 => ?_) (fun c49 => ?_)
        · replace h := h.2 c49
          exact join33  _ _ _ h hw (lv_sub hl [0, 1, 2] rfl)
        · replace h := h.1 c49
          exact join38  _ _ _ h hw (lv_sub hl [0, 1, 2] rfl)
    refine lv_icmp_ge (tgt := 79) hx hb dX6_token_67 (by decide) (fun c51 => ?_) (fun c51 => ?_)
    · replace h := h.1 c51
      refine lv_aload_n hx hb dX6_token_79 rfl (lv_at hl 2 rfl) ?_
      refine M_mg25 hC hinX6 hK hw (List.mem_of_getElem? (i := 2) rfl) dX6_token_80 ?_
      exact join22 (S2 0 25) _ _ _ h hw (lv_sub hl [2, 1, 0] rfl)
    · replace h := h.2 c51
      refine lv_aload_n hx hb dX6_token_70 rfl (lv_at hl 2 rfl) ?_
      refine M_mg25 hC hinX6 hK hw (List.mem_of_getElem? (i := 2) rfl) dX6_token_71 ?_
      refine lv_iconst (v := (1 : Int32)) hx hb dX6_token_74 (by decide) ?_
      refine lv_iadd hx hb dX6_token_75 ?_
      refine lv_goto (tgt := 83) hx hb dX6_token_76 (by decide) ?_
      exact join22 ((S2 0 25) + (1 : Int32)) _ _ _ h hw (lv_sub hl [2, 1, 0] rfl)
  · replace h := h.1 c54
    refine lv_aload_n hx hb dX6_token_21 rfl (lv_at hl 0 rfl) ?_
    refine lv_dup hx hb dX6_token_22 rfl ?_
    refine M_mg25 hC hinX6 hK hw (List.mem_of_getElem? (i := 2) rfl) dX6_token_23 ?_
    refine lv_iconst (v := (1 : Int32)) hx hb dX6_token_26 (by decide) ?_
    refine lv_iadd hx hb dX6_token_27 ?_
    refine M_mp25 hC hinX6 hK hw (List.mem_of_getElem? (i := 2) rfl) dX6_token_28 (fun S52 H locs eS52 hw => ?_)
    replace h := h S52 eS52
    refine lv_goto (tgt := 8) hx hb dX6_token_31 (by decide) ?_
    exact h _ _ _ hw (lv_sub hl [0] rfl)
def wX6_needs (S : Bun) (J : Lon) (a1 : Int32) (post : Bun → Prop) : Prop :=
  wjoin (σ := Int32) (fun y1 => zb y1 ∧ ∀ S5 : Bun, S5 = up S 0 28 y1 → (((S5 0 28) = 0 → wX6_token S5 J  (fun S8 => post S8)) ∧ (¬ ((S5 0 28) = 0) → post S5))) (fun J2 => (((S 0 28) = 0 → ((a1 = 0 → J2 (1 : Int32)) ∧ (¬ (a1 = 0) → J2 (0 : Int32)))) ∧ (¬ ((S 0 28) = 0) → J2 (1 : Int32))))
set_option maxRecDepth 100000 in
set_option maxHeartbeats 4000000 in
theorem kX6_needs (l : Launch) (g : Gl)  (q : Nat → Nat) (sz : Nat) (S : Bun) (J : Lon) (a1 : Int32) (post : Bun → Prop) (h : wX6_needs S J a1 post) : Met l yX6_needs wsX6_needs (rmm 3 67) (wPc g E0 ((wM g q) (S, J)) sz [.ref (q 0), .int a1]) (va_Qv (fun (u : Bun × Lon) => u.2 = J ∧ post u.1) (wB g (wM g q) (va_A ((wM g q) (S, J)) sz)) (va_A ((wM g q) (S, J)) sz)) 0 0 (va_A ((wM g q) (S, J)) sz) := by
  refine mstart (Qf := fun A => va_Qv (fun (u : Bun × Lon) => u.2 = J ∧ post u.1) (wB g (wM g q) A) A) (by decide) rfl (Nat.le_of_ble_eq_true rfl) ?_
  intro p e s m args below meth c A Q H locs ls hC hr hlocks hname hQ hA hK hE hw hl
  have hC : CallFix p m c cX6_needs 2 s args wsX6_needs RX6 := hC
  obtain ⟨hx, hb, -, hown, hts⟩ := id hC
  have hl : lv_has ls 2 [(0, .ref (q 0)), (1, .int a1)] := hl
  rw [wX6_needs] at h
  have hinX6 : ∀ w ∈ wsX60, w ∈ wsX6_needs := fun w hw9 => List.mem_cons_of_mem _ (List.mem_append_right _ hw9)
  refine lv_aload_n hx hb dX6_needs_0 rfl (lv_at hl 0 rfl) ?_
  refine lv_aload_n hx hb dX6_needs_1 rfl (lv_at hl 0 rfl) ?_
  refine M_mg28 hC hinX6 hK hw (List.mem_of_getElem? (i := 1) rfl) dX6_needs_2 ?_
  obtain ⟨J2, hJ3, h⟩ := h
  have join4 : ∀ (y1 : Int32) (H : Heap) (locs : List Loc) (ls : Array Slot), J2 y1 → Wd g.1 A s.heap ((wM g q) (S, J)) H locs → lv_has ls 2 [(0, .ref (q 0))] → W p l e (rmm 3 67) s m args below meth c H locs 0 0 Q (F0 m 17 ls [.int y1, .ref (q 0)]) := by
    intro y1 H locs ls h hw hl
    replace h := hJ3 y1 h
    obtain ⟨hz, h⟩ := h
    refine M_mp28 hC hinX6 hK hw (List.mem_of_getElem? (i := 1) rfl) hz dX6_needs_17 (fun S5 H locs eS5 hw => ?_)
    replace h := h S5 eS5
    refine lv_aload_n hx hb dX6_needs_20 rfl (lv_at hl 0 rfl) ?_
    refine M_mg28 hC hinX6 hK hw (List.mem_of_getElem? (i := 1) rfl) dX6_needs_21 ?_
    refine lv_if_ne (tgt := 31) hx hb dX6_needs_24 (by decide) (fun c10 => ?_) (fun c10 => ?_)
    · replace h := h.2 c10
      rw [hQ]
      exact mretv (w := (wM g q)) (u := (S5, J)) hC hr hlocks hK hw ⟨rfl, h⟩ dX6_needs_31
    · replace h := h.1 c10
      refine lv_aload_n hx hb dX6_needs_27 rfl (lv_at hl 0 rfl) ?_
      refine mcallv (w1 := (wM g q)) (va_runV (As := []) (rest := []) hC (kX6_token l g  q H.size S5 J  _ h) (cwV 0 hts gX6_needs_X6_token rfl rfl rfl (by decide +kernel) ⟨Nat.le_of_ble_eq_true rfl, Nat.le_of_ble_eq_true rfl⟩) (mpreV E0_ok hK hE hA hw (Sub1.refl _) 0 rfl rfl) rfl rfl hl.1 rfl (lv_room (Nat.le_of_ble_eq_true rfl)) dX6_needs_28 ⟨Nat.zero_le _, Nat.zero_le _⟩) hA hw (Sub1.refl _) (fun _ => Sub.whole rfl) (fun u7 H locs h hw => ?_)
      obtain ⟨S8, J9⟩ := u7
      obtain ⟨hu, h⟩ := h
      replace hu : J = J9 := hu.symm
      subst hu
      rw [hQ]
      exact mretv (w := (wM g q)) (u := (S8, J)) hC hr hlocks hK hw ⟨rfl, h⟩ dX6_needs_31
  refine lv_if_ne (tgt := 12) hx hb dX6_needs_5 (by decide) (fun c12 => ?_) (fun c12 => ?_)
  · replace h := h.2 c12
    refine lv_iconst (v := (1 : Int32)) hx hb dX6_needs_12 (by decide) ?_
    refine lv_goto (tgt := 17) hx hb dX6_needs_13 (by decide) ?_
    exact join4 (1 : Int32) _ _ _ h hw (lv_sub hl [0] rfl)
  · replace h := h.1 c12
    refine lv_iload_n hx hb dX6_needs_8 rfl (lv_at hl 1 rfl) ?_
    refine lv_if_ne (tgt := 16) hx hb dX6_needs_9 (by decide) (fun c11 => ?_) (fun c11 => ?_)
    · replace h := h.2 c11
      refine lv_iconst (v := (0 : Int32)) hx hb dX6_needs_16 (by decide) ?_
      exact join4 (0 : Int32) _ _ _ h hw (lv_sub hl [0] rfl)
    · replace h := h.1 c11
      refine lv_iconst (v := (1 : Int32)) hx hb dX6_needs_12 (by decide) ?_
      refine lv_goto (tgt := 17) hx hb dX6_needs_13 (by decide) ?_
      exact join4 (1 : Int32) _ _ _ h hw (lv_sub hl [0] rfl)
def wX6_isAt (S : Bun) (J : Lon) (a1 : Int32) (a2 : Int32) (post : Int32 → Prop) : Prop :=
  ((a2 = 0 → post (1 : Int32)) ∧ (¬ (a2 = 0) → wX6_byteAt S J ((S 0 25) + a1) (fun r1 => ((r1 = a2 → post (1 : Int32)) ∧ (¬ (r1 = a2) → post (0 : Int32))))))
set_option maxRecDepth 100000 in
set_option maxHeartbeats 4000000 in
theorem kX6_isAt (l : Launch) (g : Gl)  (q : Nat → Nat) (sz : Nat) (S : Bun) (J : Lon) (a1 : Int32) (a2 : Int32) (post : Int32 → Prop) (h : wX6_isAt S J a1 a2 post) : Met l yX6_isAt wsX6_isAt (rmm 1 21) (wPc g E0 ((wM g q) (S, J)) sz [.ref (q 0), .int a1, .int a2]) (va_Qi (fun (r : Int32) (u : Bun × Lon) => u = (S, J) ∧ post r) (wB g (wM g q) (va_A ((wM g q) (S, J)) sz)) (va_A ((wM g q) (S, J)) sz)) 0 0 (va_A ((wM g q) (S, J)) sz) := by
  refine mstart (Qf := fun A => va_Qi (fun (r : Int32) (u : Bun × Lon) => u = (S, J) ∧ post r) (wB g (wM g q) A) A) (by decide) rfl (Nat.le_of_ble_eq_true rfl) ?_
  intro p e s m args below meth c A Q H locs ls hC hr hlocks hname hQ hA hK hE hw hl
  have hC : CallFix p m c cX6_isAt 3 s args wsX6_isAt RX6 := hC
  obtain ⟨hx, hb, -, hown, hts⟩ := id hC
  have hl : lv_has ls 3 [(0, .ref (q 0)), (1, .int a1), (2, .int a2)] := hl
  rw [wX6_isAt] at h
  have hinX6 : ∀ w ∈ wsX60, w ∈ wsX6_isAt := fun w hw9 => List.mem_cons_of_mem _ (List.mem_append_right _ hw9)
  refine lv_iload_n hx hb dX6_isAt_0 rfl (lv_at hl 2 rfl) ?_
  refine lv_if_eq (tgt := 18) hx hb dX6_isAt_1 (by decide) (fun c4 => ?_) (fun c4 => ?_)
  · replace h := h.1 c4
    refine lv_iconst (v := (1 : Int32)) hx hb dX6_isAt_18 (by decide) ?_
    refine lv_goto (tgt := 23) hx hb dX6_isAt_19 (by decide) ?_
    rw [hQ]
    exact mretz (w := (wM g q)) (u := (S, J)) hC hr hlocks hK hw (Or.inr rfl) ⟨rfl, h⟩ dX6_isAt_23
  · replace h := h.2 c4
    refine lv_aload_n hx hb dX6_isAt_4 rfl (lv_at hl 0 rfl) ?_
    refine lv_aload_n hx hb dX6_isAt_5 rfl (lv_at hl 0 rfl) ?_
    refine M_mg25 hC hinX6 hK hw (List.mem_of_getElem? (i := 1) rfl) dX6_isAt_6 ?_
    refine lv_iload_n hx hb dX6_isAt_9 rfl (lv_at hl 1 rfl) ?_
    refine lv_iadd hx hb dX6_isAt_10 ?_
    refine mcalli (w1 := (wM g q)) (va_runV (As := [.int ((S 0 25) + a1)]) (rest := []) hC (kX6_byteAt l g  q H.size S J ((S 0 25) + a1) _ h) (cwV 1 hts gX6_isAt_X6_byteAt rfl rfl rfl (by decide +kernel) ⟨Nat.le_of_ble_eq_true rfl, Nat.le_of_ble_eq_true rfl⟩) (mpreV E0_ok hK hE hA hw (Sub1.refl _) 0 rfl rfl) rfl rfl hl.1 rfl (lv_room (Nat.le_of_ble_eq_true rfl)) dX6_isAt_11 ⟨Nat.zero_le _, Nat.zero_le _⟩) hA hw (Sub1.refl _) (fun _ => Sub.whole rfl) (fun r1 u2 H locs h hw => ?_)
    obtain ⟨hu, h⟩ := h
    replace hu := hu.symm
    subst hu
    refine lv_iload_n hx hb dX6_isAt_14 rfl (lv_at hl 2 rfl) ?_
    refine lv_icmp_ne (tgt := 22) hx hb dX6_isAt_15 (by decide) (fun c3 => ?_) (fun c3 => ?_)
    · replace h := h.2 c3
      refine lv_iconst (v := (0 : Int32)) hx hb dX6_isAt_22 (by decide) ?_
      rw [hQ]
      exact mretz (w := (wM g q)) (u := (S, J)) hC hr hlocks hK hw (Or.inl rfl) ⟨rfl, h⟩ dX6_isAt_23
    · replace h := h.1 c3
      refine lv_iconst (v := (1 : Int32)) hx hb dX6_isAt_18 (by decide) ?_
      refine lv_goto (tgt := 23) hx hb dX6_isAt_19 (by decide) ?_
      rw [hQ]
      exact mretz (w := (wM g q)) (u := (S, J)) hC hr hlocks hK hw (Or.inr rfl) ⟨rfl, h⟩ dX6_isAt_23
def wX6_isWord (S : Bun) (J : Lon) (a1 : Int32) (a2 : Int32) (a3 : Int32) (a4 : Int32) (a5 : Int32) (a6 : Int32) (a7 : Int32) (post : Int32 → Prop) : Prop :=
  wjoin (σ := Int32) (fun y1 => (((S 0 28) = 0 → ((((S 0 26) - (S 0 25)) = y1 → wX6_isAt S J (0 : Int32) a1 (fun r5 => ((r5 = 0 → post (0 : Int32)) ∧ (¬ (r5 = 0) → wX6_isAt S J (1 : Int32) a2 (fun r7 => ((r7 = 0 → post (0 : Int32)) ∧ (¬ (r7 = 0) → wX6_isAt S J (2 : Int32) a3 (fun r9 => ((r9 = 0 → post (0 : Int32)) ∧ (¬ (r9 = 0) → wX6_isAt S J (3 : Int32) a4 (fun r11 => ((r11 = 0 → post (0 : Int32)) ∧ (¬ (r11 = 0) → wX6_isAt S J (4 : Int32) a5 (fun r13 => ((r13 = 0 → post (0 : Int32)) ∧ (¬ (r13 = 0) → wX6_isAt S J (5 : Int32) a6 (fun r15 => ((r15 = 0 → post (0 : Int32)) ∧ (¬ (r15 = 0) → wX6_isAt S J (6 : Int32) a7 (fun r17 => ((r17 = 0 → post (0 : Int32)) ∧ (¬ (r17 = 0) → post (1 : Int32))))))))))))))))))))))) ∧ (¬ (((S 0 26) - (S 0 25)) = y1) → post (0 : Int32)))) ∧ (¬ ((S 0 28) = 0) → post (0 : Int32)))) (fun J2 => ((a3 = 0 → J2 (2 : Int32)) ∧ (¬ (a3 = 0) → ((a4 = 0 → J2 (3 : Int32)) ∧ (¬ (a4 = 0) → ((a5 = 0 → J2 (4 : Int32)) ∧ (¬ (a5 = 0) → ((a6 = 0 → J2 (5 : Int32)) ∧ (¬ (a6 = 0) → ((a7 = 0 → J2 (6 : Int32)) ∧ (¬ (a7 = 0) → J2 (7 : Int32))))))))))))
set_option maxRecDepth 100000 in
set_option maxHeartbeats 4000000 in
theorem kX6_isWord (l : Launch) (g : Gl)  (q : Nat → Nat) (sz : Nat) (S : Bun) (J : Lon) (a1 : Int32) (a2 : Int32) (a3 : Int32) (a4 : Int32) (a5 : Int32) (a6 : Int32) (a7 : Int32) (post : Int32 → Prop) (h : wX6_isWord S J a1 a2 a3 a4 a5 a6 a7 post) : Met l yX6_isWord wsX6_isWord (rmm 2 43) (wPc g E0 ((wM g q) (S, J)) sz [.ref (q 0), .int a1, .int a2, .int a3, .int a4, .int a5, .int a6, .int a7]) (va_Qi (fun (r : Int32) (u : Bun × Lon) => u = (S, J) ∧ post r) (wB g (wM g q) (va_A ((wM g q) (S, J)) sz)) (va_A ((wM g q) (S, J)) sz)) 0 0 (va_A ((wM g q) (S, J)) sz) := by
  refine mstart (Qf := fun A => va_Qi (fun (r : Int32) (u : Bun × Lon) => u = (S, J) ∧ post r) (wB g (wM g q) A) A) (by decide) rfl (Nat.le_of_ble_eq_true rfl) ?_
  intro p e s m args below meth c A Q H locs ls hC hr hlocks hname hQ hA hK hE hw hl
  have hC : CallFix p m c cX6_isWord 9 s args wsX6_isWord RX6 := hC
  obtain ⟨hx, hb, -, hown, hts⟩ := id hC
  have hl : lv_has ls 9 [(0, .ref (q 0)), (1, .int a1), (2, .int a2), (3, .int a3), (4, .int a4), (5, .int a5), (6, .int a6), (7, .int a7)] := hl
  rw [wX6_isWord] at h
  have hinX6 : ∀ w ∈ wsX60, w ∈ wsX6_isWord := fun w hw9 => List.mem_cons_of_mem _ (List.mem_append_right _ hw9)
  refine lv_iload_n hx hb dX6_isWord_0 rfl (lv_at hl 3 rfl) ?_
  obtain ⟨J2, hJ3, h⟩ := h
  have join4 : ∀ (y1 : Int32) (H : Heap) (locs : List Loc) (ls : Array Slot), J2 y1 → Wd g.1 A s.heap ((wM g q) (S, J)) H locs → lv_has ls 9 [(0, .ref (q 0)), (1, .int a1), (2, .int a2), (3, .int a3), (4, .int a4), (5, .int a5), (6, .int a6), (7, .int a7)] → W p l e (rmm 2 43) s m args below meth c H locs 0 0 Q (F0 m 47 ls [.int y1]) := by
    intro y1 H locs ls h hw hl
    replace h := hJ3 y1 h
    refine lv_istore (lv' := [(8, .int y1), (0, .ref (q 0)), (1, .int a1), (2, .int a2), (3, .int a3), (4, .int a4), (5, .int a5), (6, .int a6), (7, .int a7)]) hx hb dX6_isWord_47 hl (by decide) rfl (fun ls hl => ?_)
    refine lv_aload_n hx hb dX6_isWord_49 rfl (lv_at hl 1 rfl) ?_
    refine M_mg28 hC hinX6 hK hw (List.mem_of_getElem? (i := 1) rfl) dX6_isWord_50 ?_
    refine lv_if_ne (tgt := 142) hx hb dX6_isWord_53 (by decide) (fun c27 => ?_) (fun c27 => ?_)
    · replace h := h.2 c27
      refine lv_iconst (v := (0 : Int32)) hx hb dX6_isWord_142 (by decide) ?_
      rw [hQ]
      exact mretz (w := (wM g q)) (u := (S, J)) hC hr hlocks hK hw (Or.inl rfl) ⟨rfl, h⟩ dX6_isWord_143
    · replace h := h.1 c27
      refine lv_aload_n hx hb dX6_isWord_56 rfl (lv_at hl 1 rfl) ?_
      refine M_mg26 hC hinX6 hK hw (List.mem_of_getElem? (i := 2) rfl) dX6_isWord_57 ?_
      refine lv_aload_n hx hb dX6_isWord_60 rfl (lv_at hl 1 rfl) ?_
      refine M_mg25 hC hinX6 hK hw (List.mem_of_getElem? (i := 3) rfl) dX6_isWord_61 ?_
      refine lv_isub hx hb dX6_isWord_64 ?_
      refine lv_iload hx hb dX6_isWord_65 (lv_at hl 0 rfl) ?_
      refine lv_icmp_ne (tgt := 142) hx hb dX6_isWord_67 (by decide) (fun c26 => ?_) (fun c26 => ?_)
      · replace h := h.2 c26
        refine lv_iconst (v := (0 : Int32)) hx hb dX6_isWord_142 (by decide) ?_
        rw [hQ]
        exact mretz (w := (wM g q)) (u := (S, J)) hC hr hlocks hK hw (Or.inl rfl) ⟨rfl, h⟩ dX6_isWord_143
      · replace h := h.1 c26
        refine lv_aload_n hx hb dX6_isWord_70 rfl (lv_at hl 1 rfl) ?_
        refine lv_iconst (v := (0 : Int32)) hx hb dX6_isWord_71 (by decide) ?_
        refine lv_iload_n hx hb dX6_isWord_72 rfl (lv_at hl 2 rfl) ?_
        refine mcalli (w1 := (wM g q)) (va_runV (As := [.int (0 : Int32), .int a1]) (rest := []) hC (kX6_isAt l g  q H.size S J (0 : Int32) a1 _ h) (cwV 2 hts gX6_isWord_X6_isAt rfl rfl rfl (by decide +kernel) ⟨Nat.le_of_ble_eq_true rfl, Nat.le_of_ble_eq_true rfl⟩) (mpreV E0_ok hK hE hA hw (Sub1.refl _) 0 rfl rfl) rfl rfl hl.1 rfl (lv_room (Nat.le_of_ble_eq_true rfl)) dX6_isWord_73 ⟨Nat.zero_le _, Nat.zero_le _⟩) hA hw (Sub1.refl _) (fun _ => Sub.whole rfl) (fun r5 u6 H locs h hw => ?_)
        obtain ⟨hu, h⟩ := h
        replace hu := hu.symm
        subst hu
        refine lv_if_eq (tgt := 142) hx hb dX6_isWord_76 (by decide) (fun c25 => ?_) (fun c25 => ?_)
        · replace h := h.1 c25
          refine lv_iconst (v := (0 : Int32)) hx hb dX6_isWord_142 (by decide) ?_
          rw [hQ]
          exact mretz (w := (wM g q)) (u := (S, J)) hC hr hlocks hK hw (Or.inl rfl) ⟨rfl, h⟩ dX6_isWord_143
        · replace h := h.2 c25
          refine lv_aload_n hx hb dX6_isWord_79 rfl (lv_at hl 1 rfl) ?_
          refine lv_iconst (v := (1 : Int32)) hx hb dX6_isWord_80 (by decide) ?_
          refine lv_iload_n hx hb dX6_isWord_81 rfl (lv_at hl 3 rfl) ?_
          refine mcalli (w1 := (wM g q)) (va_runV (As := [.int (1 : Int32), .int a2]) (rest := []) hC (kX6_isAt l g  q H.size S J (1 : Int32) a2 _ h) (cwV 2 hts gX6_isWord_X6_isAt rfl rfl rfl (by decide +kernel) ⟨Nat.le_of_ble_eq_true rfl, Nat.le_of_ble_eq_true rfl⟩) (mpreV E0_ok hK hE hA hw (Sub1.refl _) 0 rfl rfl) rfl rfl hl.1 rfl (lv_room (Nat.le_of_ble_eq_true rfl)) dX6_isWord_82 ⟨Nat.zero_le _, Nat.zero_le _⟩) hA hw (Sub1.refl _) (fun _ => Sub.whole rfl) (fun r7 u8 H locs h hw => ?_)
          obtain ⟨hu, h⟩ := h
          replace hu := hu.symm
          subst hu
          refine lv_if_eq (tgt := 142) hx hb dX6_isWord_85 (by decide) (fun c24 => ?_) (fun c24 => ?_)
          · replace h := h.1 c24
            refine lv_iconst (v := (0 : Int32)) hx hb dX6_isWord_142 (by decide) ?_
            rw [hQ]
            exact mretz (w := (wM g q)) (u := (S, J)) hC hr hlocks hK hw (Or.inl rfl) ⟨rfl, h⟩ dX6_isWord_143
          · replace h := h.2 c24
            refine lv_aload_n hx hb dX6_isWord_88 rfl (lv_at hl 1 rfl) ?_
            refine lv_iconst (v := (2 : Int32)) hx hb dX6_isWord_89 (by decide) ?_
            refine lv_iload_n hx hb dX6_isWord_90 rfl (lv_at hl 4 rfl) ?_
            refine mcalli (w1 := (wM g q)) (va_runV (As := [.int (2 : Int32), .int a3]) (rest := []) hC (kX6_isAt l g  q H.size S J (2 : Int32) a3 _ h) (cwV 2 hts gX6_isWord_X6_isAt rfl rfl rfl (by decide +kernel) ⟨Nat.le_of_ble_eq_true rfl, Nat.le_of_ble_eq_true rfl⟩) (mpreV E0_ok hK hE hA hw (Sub1.refl _) 0 rfl rfl) rfl rfl hl.1 rfl (lv_room (Nat.le_of_ble_eq_true rfl)) dX6_isWord_91 ⟨Nat.zero_le _, Nat.zero_le _⟩) hA hw (Sub1.refl _) (fun _ => Sub.whole rfl) (fun r9 u10 H locs h hw => ?_)
            obtain ⟨hu, h⟩ := h
            replace hu := hu.symm
            subst hu
            refine lv_if_eq (tgt := 142) hx hb dX6_isWord_94 (by decide) (fun c23 => ?_) (fun c23 => ?_)
            · replace h := h.1 c23
              refine lv_iconst (v := (0 : Int32)) hx hb dX6_isWord_142 (by decide) ?_
              rw [hQ]
              exact mretz (w := (wM g q)) (u := (S, J)) hC hr hlocks hK hw (Or.inl rfl) ⟨rfl, h⟩ dX6_isWord_143
            · replace h := h.2 c23
              refine lv_aload_n hx hb dX6_isWord_97 rfl (lv_at hl 1 rfl) ?_
              refine lv_iconst (v := (3 : Int32)) hx hb dX6_isWord_98 (by decide) ?_
              refine lv_iload hx hb dX6_isWord_99 (lv_at hl 5 rfl) ?_
              refine mcalli (w1 := (wM g q)) (va_runV (As := [.int (3 : Int32), .int a4]) (rest := []) hC (kX6_isAt l g  q H.size S J (3 : Int32) a4 _ h) (cwV 2 hts gX6_isWord_X6_isAt rfl rfl rfl (by decide +kernel) ⟨Nat.le_of_ble_eq_true rfl, Nat.le_of_ble_eq_true rfl⟩) (mpreV E0_ok hK hE hA hw (Sub1.refl _) 0 rfl rfl) rfl rfl hl.1 rfl (lv_room (Nat.le_of_ble_eq_true rfl)) dX6_isWord_101 ⟨Nat.zero_le _, Nat.zero_le _⟩) hA hw (Sub1.refl _) (fun _ => Sub.whole rfl) (fun r11 u12 H locs h hw => ?_)
              obtain ⟨hu, h⟩ := h
              replace hu := hu.symm
              subst hu
              refine lv_if_eq (tgt := 142) hx hb dX6_isWord_104 (by decide) (fun c22 => ?_) (fun c22 => ?_)
              · replace h := h.1 c22
                refine lv_iconst (v := (0 : Int32)) hx hb dX6_isWord_142 (by decide) ?_
                rw [hQ]
                exact mretz (w := (wM g q)) (u := (S, J)) hC hr hlocks hK hw (Or.inl rfl) ⟨rfl, h⟩ dX6_isWord_143
              · replace h := h.2 c22
                refine lv_aload_n hx hb dX6_isWord_107 rfl (lv_at hl 1 rfl) ?_
                refine lv_iconst (v := (4 : Int32)) hx hb dX6_isWord_108 (by decide) ?_
                refine lv_iload hx hb dX6_isWord_109 (lv_at hl 6 rfl) ?_
                refine mcalli (w1 := (wM g q)) (va_runV (As := [.int (4 : Int32), .int a5]) (rest := []) hC (kX6_isAt l g  q H.size S J (4 : Int32) a5 _ h) (cwV 2 hts gX6_isWord_X6_isAt rfl rfl rfl (by decide +kernel) ⟨Nat.le_of_ble_eq_true rfl, Nat.le_of_ble_eq_true rfl⟩) (mpreV E0_ok hK hE hA hw (Sub1.refl _) 0 rfl rfl) rfl rfl hl.1 rfl (lv_room (Nat.le_of_ble_eq_true rfl)) dX6_isWord_111 ⟨Nat.zero_le _, Nat.zero_le _⟩) hA hw (Sub1.refl _) (fun _ => Sub.whole rfl) (fun r13 u14 H locs h hw => ?_)
                obtain ⟨hu, h⟩ := h
                replace hu := hu.symm
                subst hu
                refine lv_if_eq (tgt := 142) hx hb dX6_isWord_114 (by decide) (fun c21 => ?_) (fun c21 => ?_)
                · replace h := h.1 c21
                  refine lv_iconst (v := (0 : Int32)) hx hb dX6_isWord_142 (by decide) ?_
                  rw [hQ]
                  exact mretz (w := (wM g q)) (u := (S, J)) hC hr hlocks hK hw (Or.inl rfl) ⟨rfl, h⟩ dX6_isWord_143
                · replace h := h.2 c21
                  refine lv_aload_n hx hb dX6_isWord_117 rfl (lv_at hl 1 rfl) ?_
                  refine lv_iconst (v := (5 : Int32)) hx hb dX6_isWord_118 (by decide) ?_
                  refine lv_iload hx hb dX6_isWord_119 (lv_at hl 7 rfl) ?_
                  refine mcalli (w1 := (wM g q)) (va_runV (As := [.int (5 : Int32), .int a6]) (rest := []) hC (kX6_isAt l g  q H.size S J (5 : Int32) a6 _ h) (cwV 2 hts gX6_isWord_X6_isAt rfl rfl rfl (by decide +kernel) ⟨Nat.le_of_ble_eq_true rfl, Nat.le_of_ble_eq_true rfl⟩) (mpreV E0_ok hK hE hA hw (Sub1.refl _) 0 rfl rfl) rfl rfl hl.1 rfl (lv_room (Nat.le_of_ble_eq_true rfl)) dX6_isWord_121 ⟨Nat.zero_le _, Nat.zero_le _⟩) hA hw (Sub1.refl _) (fun _ => Sub.whole rfl) (fun r15 u16 H locs h hw => ?_)
                  obtain ⟨hu, h⟩ := h
                  replace hu := hu.symm
                  subst hu
                  refine lv_if_eq (tgt := 142) hx hb dX6_isWord_124 (by decide) (fun c20 => ?_) (fun c20 => ?_)
                  · replace h := h.1 c20
                    refine lv_iconst (v := (0 : Int32)) hx hb dX6_isWord_142 (by decide) ?_
                    rw [hQ]
                    exact mretz (w := (wM g q)) (u := (S, J)) hC hr hlocks hK hw (Or.inl rfl) ⟨rfl, h⟩ dX6_isWord_143
                  · replace h := h.2 c20
                    refine lv_aload_n hx hb dX6_isWord_127 rfl (lv_at hl 1 rfl) ?_
                    refine lv_bipush (v := (6 : Int32)) hx hb dX6_isWord_128 (by decide) ?_
                    refine lv_iload hx hb dX6_isWord_130 (lv_at hl 8 rfl) ?_
                    refine mcalli (w1 := (wM g q)) (va_runV (As := [.int (6 : Int32), .int a7]) (rest := []) hC (kX6_isAt l g  q H.size S J (6 : Int32) a7 _ h) (cwV 2 hts gX6_isWord_X6_isAt rfl rfl rfl (by decide +kernel) ⟨Nat.le_of_ble_eq_true rfl, Nat.le_of_ble_eq_true rfl⟩) (mpreV E0_ok hK hE hA hw (Sub1.refl _) 0 rfl rfl) rfl rfl hl.1 rfl (lv_room (Nat.le_of_ble_eq_true rfl)) dX6_isWord_132 ⟨Nat.zero_le _, Nat.zero_le _⟩) hA hw (Sub1.refl _) (fun _ => Sub.whole rfl) (fun r17 u18 H locs h hw => ?_)
                    obtain ⟨hu, h⟩ := h
                    replace hu := hu.symm
                    subst hu
                    refine lv_if_eq (tgt := 142) hx hb dX6_isWord_135 (by decide) (fun c19 => ?_) (fun c19 => ?_)
                    · replace h := h.1 c19
                      refine lv_iconst (v := (0 : Int32)) hx hb dX6_isWord_142 (by decide) ?_
                      rw [hQ]
                      exact mretz (w := (wM g q)) (u := (S, J)) hC hr hlocks hK hw (Or.inl rfl) ⟨rfl, h⟩ dX6_isWord_143
                    · replace h := h.2 c19
                      refine lv_iconst (v := (1 : Int32)) hx hb dX6_isWord_138 (by decide) ?_
                      refine lv_goto (tgt := 143) hx hb dX6_isWord_139 (by decide) ?_
                      rw [hQ]
                      exact mretz (w := (wM g q)) (u := (S, J)) hC hr hlocks hK hw (Or.inr rfl) ⟨rfl, h⟩ dX6_isWord_143
  refine lv_if_ne (tgt := 8) hx hb dX6_isWord_1 (by decide) (fun c32 => ?_) (fun c32 => ?_)
  · replace h := h.2 c32
    refine lv_iload hx hb dX6_isWord_8 (lv_at hl 4 rfl) ?_
    refine lv_if_ne (tgt := 17) hx hb dX6_isWord_10 (by decide) (fun c31 => ?_) (fun c31 => ?_)
    · replace h := h.2 c31
      refine lv_iload hx hb dX6_isWord_17 (lv_at hl 5 rfl) ?_
      refine lv_if_ne (tgt := 26) hx hb dX6_isWord_19 (by decide) (fun c30 => ?_) (fun c30 => ?_)
      · replace h := h.2 c30
        refine lv_iload hx hb dX6_isWord_26 (lv_at hl 6 rfl) ?_
        refine lv_if_ne (tgt := 35) hx hb dX6_isWord_28 (by decide) (fun c29 => ?_) (fun c29 => ?_)
        · replace h := h.2 c29
          refine lv_iload hx hb dX6_isWord_35 (lv_at hl 7 rfl) ?_
          refine lv_if_ne (tgt := 45) hx hb dX6_isWord_37 (by decide) (fun c28 => ?_) (fun c28 => ?_)
          · replace h := h.2 c28
            refine lv_bipush (v := (7 : Int32)) hx hb dX6_isWord_45 (by decide) ?_
            exact join4 (7 : Int32) _ _ _ h hw (lv_sub hl [0, 1, 2, 3, 4, 5, 6, 7] rfl)
          · replace h := h.1 c28
            refine lv_bipush (v := (6 : Int32)) hx hb dX6_isWord_40 (by decide) ?_
            refine lv_goto (tgt := 47) hx hb dX6_isWord_42 (by decide) ?_
            exact join4 (6 : Int32) _ _ _ h hw (lv_sub hl [0, 1, 2, 3, 4, 5, 6, 7] rfl)
        · replace h := h.1 c29
          refine lv_iconst (v := (5 : Int32)) hx hb dX6_isWord_31 (by decide) ?_
          refine lv_goto (tgt := 47) hx hb dX6_isWord_32 (by decide) ?_
          exact join4 (5 : Int32) _ _ _ h hw (lv_sub hl [0, 1, 2, 3, 4, 5, 6, 7] rfl)
      · replace h := h.1 c30
        refine lv_iconst (v := (4 : Int32)) hx hb dX6_isWord_22 (by decide) ?_
        refine lv_goto (tgt := 47) hx hb dX6_isWord_23 (by decide) ?_
        exact join4 (4 : Int32) _ _ _ h hw (lv_sub hl [0, 1, 2, 3, 4, 5, 6, 7] rfl)
    · replace h := h.1 c31
      refine lv_iconst (v := (3 : Int32)) hx hb dX6_isWord_13 (by decide) ?_
      refine lv_goto (tgt := 47) hx hb dX6_isWord_14 (by decide) ?_
      exact join4 (3 : Int32) _ _ _ h hw (lv_sub hl [0, 1, 2, 3, 4, 5, 6, 7] rfl)
  · replace h := h.1 c32
    refine lv_iconst (v := (2 : Int32)) hx hb dX6_isWord_4 (by decide) ?_
    refine lv_goto (tgt := 47) hx hb dX6_isWord_5 (by decide) ?_
    exact join4 (2 : Int32) _ _ _ h hw (lv_sub hl [0, 1, 2, 3, 4, 5, 6, 7] rfl)
def wX6_number (S : Bun) (J : Lon) (a1 : Int32) (a2 : Int32) (post : Bun → Prop) : Prop :=
  (((S 0 28) = 0 → wX6_byteAt S J (S 0 25) (fun r1 => wX6_isDigit r1 (fun r3 => ∀ x5 : Int32, x5 = S 0 25 → wloop (σ := Int32 × Int32) (fun K8 z => match z with | (x6, x7) => wjoin (σ := Unit) (fun _ => ∀ S17 : Bun, S17 = up S 0 27 x6 → wjoin (σ := Int32) (fun y18 => wX6_needs S17 J y18 (fun S24 => post S24)) (fun J19 => ((r3 = 0 → J19 (0 : Int32)) ∧ (¬ (r3 = 0) → wX6_in x6.toInt64 a1.toInt64 a2.toInt64 (fun r26 => ((r26 = 0 → J19 (0 : Int32)) ∧ (¬ (r26 = 0) → J19 (1 : Int32)))))))) (fun J14 => (((S 0 26) ≤ x7 → J14 ()) ∧ (¬ ((S 0 26) ≤ x7) → ((r3 = 0 → J14 ()) ∧ (¬ (r3 = 0) → ((x6 ≤ (999 : Int32) → vp_in x7 120 ∧ ∀ x30 : Int32, x30 = (((10 : Int32) * x6) + (S 24 x7.toNatClampNeg)) - (48 : Int32) → ∀ x31 : Int32, x31 = x7 + (1 : Int32) → K8 (x30, x31)) ∧ (¬ (x6 ≤ (999 : Int32)) → ∀ x33 : Int32, x33 = x7 + (1 : Int32) → K8 (x6, x33))))))))) ((0 : Int32), x5)))) ∧ (¬ ((S 0 28) = 0) → post S))
set_option maxRecDepth 100000 in
set_option maxHeartbeats 4000000 in
theorem kX6_number (l : Launch) (g : Gl)  (q : Nat → Nat) (sz : Nat) (S : Bun) (J : Lon) (a1 : Int32) (a2 : Int32) (post : Bun → Prop) (h : wX6_number S J a1 a2 post) : Met l yX6_number wsX6_number (rmm 4 88) (wPc g E0 ((wM g q) (S, J)) sz [.ref (q 0), .int a1, .int a2]) (va_Qv (fun (u : Bun × Lon) => u.2 = J ∧ post u.1) (wB g (wM g q) (va_A ((wM g q) (S, J)) sz)) (va_A ((wM g q) (S, J)) sz)) 0 0 (va_A ((wM g q) (S, J)) sz) := by
  refine mstart (Qf := fun A => va_Qv (fun (u : Bun × Lon) => u.2 = J ∧ post u.1) (wB g (wM g q) A) A) (by decide) rfl (Nat.le_of_ble_eq_true rfl) ?_
  intro p e s m args below meth c A Q H locs ls hC hr hlocks hname hQ hA hK hE hw hl
  have hC : CallFix p m c cX6_number 6 s args wsX6_number RX6 := hC
  obtain ⟨hx, hb, -, hown, hts⟩ := id hC
  have hl : lv_has ls 6 [(0, .ref (q 0)), (1, .int a1), (2, .int a2)] := hl
  rw [wX6_number] at h
  have hinX6 : ∀ w ∈ wsX60, w ∈ wsX6_number := fun w hw9 => List.mem_cons_of_mem _ (List.mem_append_right _ hw9)
  refine lv_aload_n hx hb dX6_number_0 rfl (lv_at hl 0 rfl) ?_
  refine M_mg28 hC hinX6 hK hw (List.mem_of_getElem? (i := 1) rfl) dX6_number_1 ?_
  refine lv_if_eq (tgt := 8) hx hb dX6_number_4 (by decide) (fun c38 => ?_) (fun c38 => ?_)
  · replace h := h.1 c38
    refine lv_aload_n hx hb dX6_number_8 rfl (lv_at hl 0 rfl) ?_
    refine lv_aload_n hx hb dX6_number_9 rfl (lv_at hl 0 rfl) ?_
    refine M_mg25 hC hinX6 hK hw (List.mem_of_getElem? (i := 2) rfl) dX6_number_10 ?_
    refine mcalli (w1 := (wM g q)) (va_runV (As := [.int (S 0 25)]) (rest := []) hC (kX6_byteAt l g  q H.size S J (S 0 25) _ h) (cwV 1 hts gX6_number_X6_byteAt rfl rfl rfl (by decide +kernel) ⟨Nat.le_of_ble_eq_true rfl, Nat.le_of_ble_eq_true rfl⟩) (mpreV E0_ok hK hE hA hw (Sub1.refl _) 0 rfl rfl) rfl rfl hl.1 rfl (lv_room (Nat.le_of_ble_eq_true rfl)) dX6_number_13 ⟨Nat.zero_le _, Nat.zero_le _⟩) hA hw (Sub1.refl _) (fun _ => Sub.whole rfl) (fun r1 u2 H locs h hw => ?_)
    obtain ⟨hu, h⟩ := h
    replace hu := hu.symm
    subst hu
    refine mcalli (w1 := (fun _ => (wM g q) (S, J))) (wc := fun _ : Unit => ([] : va_W)) (u := ()) (va_runS (As := [.int r1]) (rest := []) hC (kX6_isDigit l g  H.size r1 _ h) (va_cwS 1 hts gX6_number_X6_isDigit rfl rfl rfl (by decide +kernel) ⟨Nat.le_of_ble_eq_true rfl, Nat.le_of_ble_eq_true rfl⟩) (mpre E0_ok hK hE hA hw (Sub1.nil _)) rfl rfl hl.1 rfl (lv_room (Nat.le_of_ble_eq_true rfl)) dX6_number_16 ⟨Nat.zero_le _, Nat.zero_le _⟩) hA hw (Sub1.nil _) (fun _ => Sub.nil _) (fun r3 u4 H locs h hw => ?_)
    obtain ⟨_, h⟩ := h
    refine lv_istore_n (lv' := [(3, .int r3), (0, .ref (q 0)), (1, .int a1), (2, .int a2)]) hx hb dX6_number_19 rfl hl (by decide) rfl (fun ls hl => ?_)
    refine lv_iconst (v := (0 : Int32)) hx hb dX6_number_20 (by decide) ?_
    refine lv_istore (lv' := [(4, .int (0 : Int32)), (3, .int r3), (0, .ref (q 0)), (1, .int a1), (2, .int a2)]) hx hb dX6_number_21 hl (by decide) rfl (fun ls hl => ?_)
    refine lv_aload_n hx hb dX6_number_23 rfl (lv_at hl 2 rfl) ?_
    refine M_mg25 hC hinX6 hK hw (List.mem_of_getElem? (i := 2) rfl) dX6_number_24 ?_
    refine lv_topi (fun x5 ex5 => ?_)
    replace h := h x5 ex5
    refine lv_istore (lv' := [(5, .int x5), (4, .int (0 : Int32)), (3, .int r3), (0, .ref (q 0)), (1, .int a1), (2, .int a2)]) hx hb dX6_number_27 hl (by decide) rfl (fun ls hl => ?_)
    refine h (fun z => match z with | (x6, x7) => ∀ (H : Heap) (locs : List Loc) (ls : Array Slot), Wd g.1 A s.heap ((wM g q) (S, J)) H locs → lv_has ls 6 [(0, .ref (q 0)), (1, .int a1), (2, .int a2), (3, .int r3), (4, .int x6), (5, .int x7)] → W p l e (rmm 4 88) s m args below meth c H locs 0 0 Q (F0 m 29 ls [])) ?_ _ _ _ hw (lv_sub hl [3, 4, 5, 2, 1, 0] rfl)
    clear h hw hl
    rintro ⟨x6, x7⟩ h H locs ls hw hl
    refine lv_iload hx hb dX6_number_29 (lv_at hl 5 rfl) ?_
    refine lv_aload_n hx hb dX6_number_31 rfl (lv_at hl 0 rfl) ?_
    refine M_mg26 hC hinX6 hK hw (List.mem_of_getElem? (i := 3) rfl) dX6_number_32 ?_
    obtain ⟨J14, hJ15, h⟩ := h
    have join16 : ∀  (H : Heap) (locs : List Loc) (ls : Array Slot), J14 () → Wd g.1 A s.heap ((wM g q) (S, J)) H locs → lv_has ls 6 [(0, .ref (q 0)), (1, .int a1), (2, .int a2), (3, .int r3), (4, .int x6)] → W p l e (rmm 4 88) s m args below meth c H locs 0 0 Q (F0 m 79 ls []) := by
      intro  H locs ls h hw hl
      replace h := hJ15 () h
      refine lv_aload_n hx hb dX6_number_79 rfl (lv_at hl 0 rfl) ?_
      refine lv_iload hx hb dX6_number_80 (lv_at hl 4 rfl) ?_
      refine M_mp27 hC hinX6 hK hw (List.mem_of_getElem? (i := 5) rfl) dX6_number_82 (fun S17 H locs eS17 hw => ?_)
      replace h := h S17 eS17
      refine lv_aload_n hx hb dX6_number_85 rfl (lv_at hl 0 rfl) ?_
      refine lv_iload_n hx hb dX6_number_86 rfl (lv_at hl 3 rfl) ?_
      obtain ⟨J19, hJ20, h⟩ := h
      have join21 : ∀ (y18 : Int32) (H : Heap) (locs : List Loc) (ls : Array Slot), J19 y18 → Wd g.1 A s.heap ((wM g q) (S17, J)) H locs → lv_has ls 6 [] → W p l e (rmm 4 88) s m args below meth c H locs 0 0 Q (F0 m 108 ls [.int y18, .ref (q 0)]) := by
        intro y18 H locs ls h hw hl
        replace h := hJ20 y18 h
        refine mcallv (w1 := (wM g q)) (va_runV (As := [.int y18]) (rest := []) hC (kX6_needs l g  q H.size S17 J y18 _ h) (cwV 1 hts gX6_number_X6_needs rfl rfl rfl (by decide +kernel) ⟨Nat.le_of_ble_eq_true rfl, Nat.le_of_ble_eq_true rfl⟩) (mpreV E0_ok hK hE hA hw (Sub1.refl _) 0 rfl rfl) rfl rfl hl.1 rfl (lv_room (Nat.le_of_ble_eq_true rfl)) dX6_number_108 ⟨Nat.zero_le _, Nat.zero_le _⟩) hA hw (Sub1.refl _) (fun _ => Sub.whole rfl) (fun u23 H locs h hw => ?_)
        obtain ⟨S24, J25⟩ := u23
        obtain ⟨hu, h⟩ := h
        replace hu : J = J25 := hu.symm
        subst hu
        rw [hQ]
        exact mretv (w := (wM g q)) (u := (S24, J)) hC hr hlocks hK hw ⟨rfl, h⟩ dX6_number_111
      refine lv_if_eq (tgt := 107) hx hb dX6_number_87 (by decide) (fun c29 => ?_) (fun c29 => ?_)
      · replace h := h.1 c29
        refine lv_iconst (v := (0 : Int32)) hx hb dX6_number_107 (by decide) ?_
        exact join21 (0 : Int32) _ _ _ h hw (lv_sub hl [] rfl)
      · replace h := h.2 c29
        refine lv_iload hx hb dX6_number_90 (lv_at hl 4 rfl) ?_
        refine lv_i2l (v := x6.toInt64) hx hb dX6_number_92 rfl ?_
        refine lv_iload_n hx hb dX6_number_93 rfl (lv_at hl 1 rfl) ?_
        refine lv_i2l (v := a1.toInt64) hx hb dX6_number_94 rfl ?_
        refine lv_iload_n hx hb dX6_number_95 rfl (lv_at hl 2 rfl) ?_
        refine lv_i2l (v := a2.toInt64) hx hb dX6_number_96 rfl ?_
        refine mcalli (w1 := (fun _ => (wM g q) (S17, J))) (wc := fun _ : Unit => ([] : va_W)) (u := ()) (va_runS (As := [.long x6.toInt64, .long a1.toInt64, .long a2.toInt64]) (rest := [.ref (q 0)]) hC (kX6_in l g  H.size x6.toInt64 a1.toInt64 a2.toInt64 _ h) (va_cwS 3 hts gX6_number_X6_in rfl rfl rfl (by decide +kernel) ⟨Nat.le_of_ble_eq_true rfl, Nat.le_of_ble_eq_true rfl⟩) (mpre E0_ok hK hE hA hw (Sub1.nil _)) rfl rfl hl.1 rfl (lv_room (Nat.le_of_ble_eq_true rfl)) dX6_number_97 ⟨Nat.zero_le _, Nat.zero_le _⟩) hA hw (Sub1.nil _) (fun _ => Sub.nil _) (fun r26 u27 H locs h hw => ?_)
        obtain ⟨_, h⟩ := h
        refine lv_if_eq (tgt := 107) hx hb dX6_number_100 (by decide) (fun c28 => ?_) (fun c28 => ?_)
        · replace h := h.1 c28
          refine lv_iconst (v := (0 : Int32)) hx hb dX6_number_107 (by decide) ?_
          exact join21 (0 : Int32) _ _ _ h hw (lv_sub hl [] rfl)
        · replace h := h.2 c28
          refine lv_iconst (v := (1 : Int32)) hx hb dX6_number_103 (by decide) ?_
          refine lv_goto (tgt := 108) hx hb dX6_number_104 (by decide) ?_
          exact join21 (1 : Int32) _ _ _ h hw (lv_sub hl [] rfl)
    refine lv_icmp_ge (tgt := 79) hx hb dX6_number_35 (by decide) (fun c37 => ?_) (fun c37 => ?_)
    · replace h := h.1 c37
      exact join16  _ _ _ h hw (lv_sub hl [0, 1, 2, 3, 4] rfl)
    · replace h := h.2 c37
      refine lv_iload_n hx hb dX6_number_38 rfl (lv_at hl 3 rfl) ?_
      refine lv_if_eq (tgt := 79) hx hb dX6_number_39 (by decide) (fun c36 => ?_) (fun c36 => ?_)
      · replace h := h.1 c36
        exact join16  _ _ _ h hw (lv_sub hl [0, 1, 2, 3, 4] rfl)
      · replace h := h.2 c36
        refine lv_iload hx hb dX6_number_42 (lv_at hl 4 rfl) ?_
        refine lv_sipush (v := (999 : Int32)) hx hb dX6_number_44 (by decide) ?_
        refine lv_icmp_le (tgt := 55) hx hb dX6_number_47 (by decide) (fun c35 => ?_) (fun c35 => ?_)
        · replace h := h.1 c35
          refine lv_bipush (v := (10 : Int32)) hx hb dX6_number_55 (by decide) ?_
          refine lv_iload hx hb dX6_number_57 (lv_at hl 4 rfl) ?_
          refine lv_imul hx hb dX6_number_59 ?_
          refine lv_aload_n hx hb dX6_number_60 rfl (lv_at hl 0 rfl) ?_
          refine M_mg23 hC hinX6 hK hw (List.mem_of_getElem? (i := 4) rfl) dX6_number_61 ?_
          refine lv_iload hx hb dX6_number_64 (lv_at hl 5 rfl) ?_
          obtain ⟨hi, h⟩ := h
          refine M_ml23 hC hK hw hi dX6_number_66 ?_
          refine lv_iadd hx hb dX6_number_67 ?_
          refine lv_bipush (v := (48 : Int32)) hx hb dX6_number_68 (by decide) ?_
          refine lv_isub hx hb dX6_number_70 ?_
          refine lv_topi (fun x30 ex30 => ?_)
          replace h := h x30 ex30
          refine lv_istore (lv' := [(4, .int x30), (0, .ref (q 0)), (1, .int a1), (2, .int a2), (3, .int r3), (5, .int x7)]) hx hb dX6_number_71 hl (by decide) rfl (fun ls hl => ?_)
          obtain ⟨x31, ex31⟩ : ∃ y : Int32, y = x7 + (1 : Int32) := ⟨_, rfl⟩
          refine lv_iinc (v := x31) (lv' := [(5, .int x31), (4, .int x30), (0, .ref (q 0)), (1, .int a1), (2, .int a2), (3, .int r3)]) hx hb dX6_number_73 hl (k := 5) rfl (by rw [ex31]; rfl) (by decide) rfl (fun ls hl => ?_)
          replace h := h x31 ex31
          refine lv_goto (tgt := 29) hx hb dX6_number_76 (by decide) ?_
          exact h _ _ _ hw (lv_sub hl [2, 3, 4, 5, 1, 0] rfl)
        · replace h := h.2 c35
          refine lv_iload hx hb dX6_number_50 (lv_at hl 4 rfl) ?_
          refine lv_goto (tgt := 71) hx hb dX6_number_52 (by decide) ?_
          refine lv_istore (lv' := [(4, .int x6), (0, .ref (q 0)), (1, .int a1), (2, .int a2), (3, .int r3), (5, .int x7)]) hx hb dX6_number_71 hl (by decide) rfl (fun ls hl => ?_)
          obtain ⟨x33, ex33⟩ : ∃ y : Int32, y = x7 + (1 : Int32) := ⟨_, rfl⟩
          refine lv_iinc (v := x33) (lv' := [(5, .int x33), (4, .int x6), (0, .ref (q 0)), (1, .int a1), (2, .int a2), (3, .int r3)]) hx hb dX6_number_73 hl (k := 5) rfl (by rw [ex33]; rfl) (by decide) rfl (fun ls hl => ?_)
          replace h := h x33 ex33
          refine lv_goto (tgt := 29) hx hb dX6_number_76 (by decide) ?_
          exact h _ _ _ hw (lv_sub hl [2, 3, 4, 5, 1, 0] rfl)
  · replace h := h.2 c38
    rw [hQ]
    exact mretv (w := (wM g q)) (u := (S, J)) hC hr hlocks hK hw ⟨rfl, h⟩ dX6_number_7
def wX6_kindHere (S : Bun) (J : Lon)  (post : Int32 → Prop) : Prop :=
  wX6_isWord S J (116 : Int32) (101 : Int32) (97 : Int32) (109 : Int32) (0 : Int32) (0 : Int32) (0 : Int32) (fun r1 => ((r1 = 0 → wX6_isWord S J (108 : Int32) (101 : Int32) (102 : Int32) (116 : Int32) (0 : Int32) (0 : Int32) (0 : Int32) (fun r3 => ((r3 = 0 → wX6_isWord S J (114 : Int32) (105 : Int32) (103 : Int32) (104 : Int32) (116 : Int32) (0 : Int32) (0 : Int32) (fun r5 => ((r5 = 0 → wX6_isWord S J (119 : Int32) (105 : Int32) (100 : Int32) (101 : Int32) (0 : Int32) (0 : Int32) (0 : Int32) (fun r7 => ((r7 = 0 → wX6_isWord S J (115 : Int32) (104 : Int32) (121 : Int32) (0 : Int32) (0 : Int32) (0 : Int32) (0 : Int32) (fun r9 => ((r9 = 0 → wX6_isWord S J (115 : Int32) (108 : Int32) (111 : Int32) (119 : Int32) (0 : Int32) (0 : Int32) (0 : Int32) (fun r11 => ((r11 = 0 → post (-1 : Int32)) ∧ (¬ (r11 = 0) → post (5 : Int32))))) ∧ (¬ (r9 = 0) → post (4 : Int32))))) ∧ (¬ (r7 = 0) → post (3 : Int32))))) ∧ (¬ (r5 = 0) → post (2 : Int32))))) ∧ (¬ (r3 = 0) → post (1 : Int32))))) ∧ (¬ (r1 = 0) → post (0 : Int32))))
set_option maxRecDepth 100000 in
set_option maxHeartbeats 4000000 in
theorem kX6_kindHere (l : Launch) (g : Gl)  (q : Nat → Nat) (sz : Nat) (S : Bun) (J : Lon)  (post : Int32 → Prop) (h : wX6_kindHere S J  post) : Met l yX6_kindHere wsX6_kindHere (rmm 3 71) (wPc g E0 ((wM g q) (S, J)) sz [.ref (q 0)]) (va_Qi (fun (r : Int32) (u : Bun × Lon) => u = (S, J) ∧ post r) (wB g (wM g q) (va_A ((wM g q) (S, J)) sz)) (va_A ((wM g q) (S, J)) sz)) 0 0 (va_A ((wM g q) (S, J)) sz) := by
  refine mstart (Qf := fun A => va_Qi (fun (r : Int32) (u : Bun × Lon) => u = (S, J) ∧ post r) (wB g (wM g q) A) A) (by decide) rfl (Nat.le_of_ble_eq_true rfl) ?_
  intro p e s m args below meth c A Q H locs ls hC hr hlocks hname hQ hA hK hE hw hl
  have hC : CallFix p m c cX6_kindHere 1 s args wsX6_kindHere RX6 := hC
  obtain ⟨hx, hb, -, hown, hts⟩ := id hC
  have hl : lv_has ls 1 [(0, .ref (q 0))] := hl
  rw [wX6_kindHere] at h
  refine lv_aload_n hx hb dX6_kindHere_0 rfl (lv_at hl 0 rfl) ?_
  refine lv_bipush (v := (116 : Int32)) hx hb dX6_kindHere_1 (by decide) ?_
  refine lv_bipush (v := (101 : Int32)) hx hb dX6_kindHere_3 (by decide) ?_
  refine lv_bipush (v := (97 : Int32)) hx hb dX6_kindHere_5 (by decide) ?_
  refine lv_bipush (v := (109 : Int32)) hx hb dX6_kindHere_7 (by decide) ?_
  refine lv_iconst (v := (0 : Int32)) hx hb dX6_kindHere_9 (by decide) ?_
  refine lv_iconst (v := (0 : Int32)) hx hb dX6_kindHere_10 (by decide) ?_
  refine lv_iconst (v := (0 : Int32)) hx hb dX6_kindHere_11 (by decide) ?_
  refine mcalli (w1 := (wM g q)) (va_runV (As := [.int (116 : Int32), .int (101 : Int32), .int (97 : Int32), .int (109 : Int32), .int (0 : Int32), .int (0 : Int32), .int (0 : Int32)]) (rest := []) hC (kX6_isWord l g  q H.size S J (116 : Int32) (101 : Int32) (97 : Int32) (109 : Int32) (0 : Int32) (0 : Int32) (0 : Int32) _ h) (cwV 7 hts gX6_kindHere_X6_isWord rfl rfl rfl (by decide +kernel) ⟨Nat.le_of_ble_eq_true rfl, Nat.le_of_ble_eq_true rfl⟩) (mpreV E0_ok hK hE hA hw (Sub1.refl _) 0 rfl rfl) rfl rfl hl.1 rfl (lv_room (Nat.le_of_ble_eq_true rfl)) dX6_kindHere_12 ⟨Nat.zero_le _, Nat.zero_le _⟩) hA hw (Sub1.refl _) (fun _ => Sub.whole rfl) (fun r1 u2 H locs h hw => ?_)
  obtain ⟨hu, h⟩ := h
  replace hu := hu.symm
  subst hu
  refine lv_if_eq (tgt := 20) hx hb dX6_kindHere_15 (by decide) (fun c18 => ?_) (fun c18 => ?_)
  · replace h := h.1 c18
    refine lv_aload_n hx hb dX6_kindHere_20 rfl (lv_at hl 0 rfl) ?_
    refine lv_bipush (v := (108 : Int32)) hx hb dX6_kindHere_21 (by decide) ?_
    refine lv_bipush (v := (101 : Int32)) hx hb dX6_kindHere_23 (by decide) ?_
    refine lv_bipush (v := (102 : Int32)) hx hb dX6_kindHere_25 (by decide) ?_
    refine lv_bipush (v := (116 : Int32)) hx hb dX6_kindHere_27 (by decide) ?_
    refine lv_iconst (v := (0 : Int32)) hx hb dX6_kindHere_29 (by decide) ?_
    refine lv_iconst (v := (0 : Int32)) hx hb dX6_kindHere_30 (by decide) ?_
    refine lv_iconst (v := (0 : Int32)) hx hb dX6_kindHere_31 (by decide) ?_
    refine mcalli (w1 := (wM g q)) (va_runV (As := [.int (108 : Int32), .int (101 : Int32), .int (102 : Int32), .int (116 : Int32), .int (0 : Int32), .int (0 : Int32), .int (0 : Int32)]) (rest := []) hC (kX6_isWord l g  q H.size S J (108 : Int32) (101 : Int32) (102 : Int32) (116 : Int32) (0 : Int32) (0 : Int32) (0 : Int32) _ h) (cwV 7 hts gX6_kindHere_X6_isWord rfl rfl rfl (by decide +kernel) ⟨Nat.le_of_ble_eq_true rfl, Nat.le_of_ble_eq_true rfl⟩) (mpreV E0_ok hK hE hA hw (Sub1.refl _) 0 rfl rfl) rfl rfl hl.1 rfl (lv_room (Nat.le_of_ble_eq_true rfl)) dX6_kindHere_32 ⟨Nat.zero_le _, Nat.zero_le _⟩) hA hw (Sub1.refl _) (fun _ => Sub.whole rfl) (fun r3 u4 H locs h hw => ?_)
    obtain ⟨hu, h⟩ := h
    replace hu := hu.symm
    subst hu
    refine lv_if_eq (tgt := 42) hx hb dX6_kindHere_35 (by decide) (fun c17 => ?_) (fun c17 => ?_)
    · replace h := h.1 c17
      refine lv_aload_n hx hb dX6_kindHere_42 rfl (lv_at hl 0 rfl) ?_
      refine lv_bipush (v := (114 : Int32)) hx hb dX6_kindHere_43 (by decide) ?_
      refine lv_bipush (v := (105 : Int32)) hx hb dX6_kindHere_45 (by decide) ?_
      refine lv_bipush (v := (103 : Int32)) hx hb dX6_kindHere_47 (by decide) ?_
      refine lv_bipush (v := (104 : Int32)) hx hb dX6_kindHere_49 (by decide) ?_
      refine lv_bipush (v := (116 : Int32)) hx hb dX6_kindHere_51 (by decide) ?_
      refine lv_iconst (v := (0 : Int32)) hx hb dX6_kindHere_53 (by decide) ?_
      refine lv_iconst (v := (0 : Int32)) hx hb dX6_kindHere_54 (by decide) ?_
      refine mcalli (w1 := (wM g q)) (va_runV (As := [.int (114 : Int32), .int (105 : Int32), .int (103 : Int32), .int (104 : Int32), .int (116 : Int32), .int (0 : Int32), .int (0 : Int32)]) (rest := []) hC (kX6_isWord l g  q H.size S J (114 : Int32) (105 : Int32) (103 : Int32) (104 : Int32) (116 : Int32) (0 : Int32) (0 : Int32) _ h) (cwV 7 hts gX6_kindHere_X6_isWord rfl rfl rfl (by decide +kernel) ⟨Nat.le_of_ble_eq_true rfl, Nat.le_of_ble_eq_true rfl⟩) (mpreV E0_ok hK hE hA hw (Sub1.refl _) 0 rfl rfl) rfl rfl hl.1 rfl (lv_room (Nat.le_of_ble_eq_true rfl)) dX6_kindHere_55 ⟨Nat.zero_le _, Nat.zero_le _⟩) hA hw (Sub1.refl _) (fun _ => Sub.whole rfl) (fun r5 u6 H locs h hw => ?_)
      obtain ⟨hu, h⟩ := h
      replace hu := hu.symm
      subst hu
      refine lv_if_eq (tgt := 65) hx hb dX6_kindHere_58 (by decide) (fun c16 => ?_) (fun c16 => ?_)
      · replace h := h.1 c16
        refine lv_aload_n hx hb dX6_kindHere_65 rfl (lv_at hl 0 rfl) ?_
        refine lv_bipush (v := (119 : Int32)) hx hb dX6_kindHere_66 (by decide) ?_
        refine lv_bipush (v := (105 : Int32)) hx hb dX6_kindHere_68 (by decide) ?_
        refine lv_bipush (v := (100 : Int32)) hx hb dX6_kindHere_70 (by decide) ?_
        refine lv_bipush (v := (101 : Int32)) hx hb dX6_kindHere_72 (by decide) ?_
        refine lv_iconst (v := (0 : Int32)) hx hb dX6_kindHere_74 (by decide) ?_
        refine lv_iconst (v := (0 : Int32)) hx hb dX6_kindHere_75 (by decide) ?_
        refine lv_iconst (v := (0 : Int32)) hx hb dX6_kindHere_76 (by decide) ?_
        refine mcalli (w1 := (wM g q)) (va_runV (As := [.int (119 : Int32), .int (105 : Int32), .int (100 : Int32), .int (101 : Int32), .int (0 : Int32), .int (0 : Int32), .int (0 : Int32)]) (rest := []) hC (kX6_isWord l g  q H.size S J (119 : Int32) (105 : Int32) (100 : Int32) (101 : Int32) (0 : Int32) (0 : Int32) (0 : Int32) _ h) (cwV 7 hts gX6_kindHere_X6_isWord rfl rfl rfl (by decide +kernel) ⟨Nat.le_of_ble_eq_true rfl, Nat.le_of_ble_eq_true rfl⟩) (mpreV E0_ok hK hE hA hw (Sub1.refl _) 0 rfl rfl) rfl rfl hl.1 rfl (lv_room (Nat.le_of_ble_eq_true rfl)) dX6_kindHere_77 ⟨Nat.zero_le _, Nat.zero_le _⟩) hA hw (Sub1.refl _) (fun _ => Sub.whole rfl) (fun r7 u8 H locs h hw => ?_)
        obtain ⟨hu, h⟩ := h
        replace hu := hu.symm
        subst hu
        refine lv_if_eq (tgt := 87) hx hb dX6_kindHere_80 (by decide) (fun c15 => ?_) (fun c15 => ?_)
        · replace h := h.1 c15
          refine lv_aload_n hx hb dX6_kindHere_87 rfl (lv_at hl 0 rfl) ?_
          refine lv_bipush (v := (115 : Int32)) hx hb dX6_kindHere_88 (by decide) ?_
          refine lv_bipush (v := (104 : Int32)) hx hb dX6_kindHere_90 (by decide) ?_
          refine lv_bipush (v := (121 : Int32)) hx hb dX6_kindHere_92 (by decide) ?_
          refine lv_iconst (v := (0 : Int32)) hx hb dX6_kindHere_94 (by decide) ?_
          refine lv_iconst (v := (0 : Int32)) hx hb dX6_kindHere_95 (by decide) ?_
          refine lv_iconst (v := (0 : Int32)) hx hb dX6_kindHere_96 (by decide) ?_
          refine lv_iconst (v := (0 : Int32)) hx hb dX6_kindHere_97 (by decide) ?_
          refine mcalli (w1 := (wM g q)) (va_runV (As := [.int (115 : Int32), .int (104 : Int32), .int (121 : Int32), .int (0 : Int32), .int (0 : Int32), .int (0 : Int32), .int (0 : Int32)]) (rest := []) hC (kX6_isWord l g  q H.size S J (115 : Int32) (104 : Int32) (121 : Int32) (0 : Int32) (0 : Int32) (0 : Int32) (0 : Int32) _ h) (cwV 7 hts gX6_kindHere_X6_isWord rfl rfl rfl (by decide +kernel) ⟨Nat.le_of_ble_eq_true rfl, Nat.le_of_ble_eq_true rfl⟩) (mpreV E0_ok hK hE hA hw (Sub1.refl _) 0 rfl rfl) rfl rfl hl.1 rfl (lv_room (Nat.le_of_ble_eq_true rfl)) dX6_kindHere_98 ⟨Nat.zero_le _, Nat.zero_le _⟩) hA hw (Sub1.refl _) (fun _ => Sub.whole rfl) (fun r9 u10 H locs h hw => ?_)
          obtain ⟨hu, h⟩ := h
          replace hu := hu.symm
          subst hu
          refine lv_if_eq (tgt := 108) hx hb dX6_kindHere_101 (by decide) (fun c14 => ?_) (fun c14 => ?_)
          · replace h := h.1 c14
            refine lv_aload_n hx hb dX6_kindHere_108 rfl (lv_at hl 0 rfl) ?_
            refine lv_bipush (v := (115 : Int32)) hx hb dX6_kindHere_109 (by decide) ?_
            refine lv_bipush (v := (108 : Int32)) hx hb dX6_kindHere_111 (by decide) ?_
            refine lv_bipush (v := (111 : Int32)) hx hb dX6_kindHere_113 (by decide) ?_
            refine lv_bipush (v := (119 : Int32)) hx hb dX6_kindHere_115 (by decide) ?_
            refine lv_iconst (v := (0 : Int32)) hx hb dX6_kindHere_117 (by decide) ?_
            refine lv_iconst (v := (0 : Int32)) hx hb dX6_kindHere_118 (by decide) ?_
            refine lv_iconst (v := (0 : Int32)) hx hb dX6_kindHere_119 (by decide) ?_
            refine mcalli (w1 := (wM g q)) (va_runV (As := [.int (115 : Int32), .int (108 : Int32), .int (111 : Int32), .int (119 : Int32), .int (0 : Int32), .int (0 : Int32), .int (0 : Int32)]) (rest := []) hC (kX6_isWord l g  q H.size S J (115 : Int32) (108 : Int32) (111 : Int32) (119 : Int32) (0 : Int32) (0 : Int32) (0 : Int32) _ h) (cwV 7 hts gX6_kindHere_X6_isWord rfl rfl rfl (by decide +kernel) ⟨Nat.le_of_ble_eq_true rfl, Nat.le_of_ble_eq_true rfl⟩) (mpreV E0_ok hK hE hA hw (Sub1.refl _) 0 rfl rfl) rfl rfl hl.1 rfl (lv_room (Nat.le_of_ble_eq_true rfl)) dX6_kindHere_120 ⟨Nat.zero_le _, Nat.zero_le _⟩) hA hw (Sub1.refl _) (fun _ => Sub.whole rfl) (fun r11 u12 H locs h hw => ?_)
            obtain ⟨hu, h⟩ := h
            replace hu := hu.symm
            subst hu
            refine lv_if_eq (tgt := 130) hx hb dX6_kindHere_123 (by decide) (fun c13 => ?_) (fun c13 => ?_)
            · replace h := h.1 c13
              refine lv_iconst (v := (-1 : Int32)) hx hb dX6_kindHere_130 (by decide) ?_
              rw [hQ]
              exact mreti (w := (wM g q)) (u := (S, J)) hC hr hlocks hK hw ⟨rfl, h⟩ dX6_kindHere_131
            · replace h := h.2 c13
              refine lv_iconst (v := (5 : Int32)) hx hb dX6_kindHere_126 (by decide) ?_
              refine lv_goto (tgt := 131) hx hb dX6_kindHere_127 (by decide) ?_
              rw [hQ]
              exact mreti (w := (wM g q)) (u := (S, J)) hC hr hlocks hK hw ⟨rfl, h⟩ dX6_kindHere_131
          · replace h := h.2 c14
            refine lv_iconst (v := (4 : Int32)) hx hb dX6_kindHere_104 (by decide) ?_
            refine lv_goto (tgt := 131) hx hb dX6_kindHere_105 (by decide) ?_
            rw [hQ]
            exact mreti (w := (wM g q)) (u := (S, J)) hC hr hlocks hK hw ⟨rfl, h⟩ dX6_kindHere_131
        · replace h := h.2 c15
          refine lv_iconst (v := (3 : Int32)) hx hb dX6_kindHere_83 (by decide) ?_
          refine lv_goto (tgt := 131) hx hb dX6_kindHere_84 (by decide) ?_
          rw [hQ]
          exact mreti (w := (wM g q)) (u := (S, J)) hC hr hlocks hK hw ⟨rfl, h⟩ dX6_kindHere_131
      · replace h := h.2 c16
        refine lv_iconst (v := (2 : Int32)) hx hb dX6_kindHere_61 (by decide) ?_
        refine lv_goto (tgt := 131) hx hb dX6_kindHere_62 (by decide) ?_
        rw [hQ]
        exact mreti (w := (wM g q)) (u := (S, J)) hC hr hlocks hK hw ⟨rfl, h⟩ dX6_kindHere_131
    · replace h := h.2 c17
      refine lv_iconst (v := (1 : Int32)) hx hb dX6_kindHere_38 (by decide) ?_
      refine lv_goto (tgt := 131) hx hb dX6_kindHere_39 (by decide) ?_
      rw [hQ]
      exact mreti (w := (wM g q)) (u := (S, J)) hC hr hlocks hK hw ⟨rfl, h⟩ dX6_kindHere_131
  · replace h := h.2 c18
    refine lv_iconst (v := (0 : Int32)) hx hb dX6_kindHere_18 (by decide) ?_
    rw [hQ]
    exact mreti (w := (wM g q)) (u := (S, J)) hC hr hlocks hK hw ⟨rfl, h⟩ dX6_kindHere_19
def wX6_cells (S : Bun) (J : Lon)  (post : Int32 → Bun → Prop) : Prop :=
  wX6_needs S J (1 : Int32) (fun S3 => wloop (σ := Int32 × Int32 × Int32 × Bun) (fun K9 z => match z with | (x5, x6, x7, S8) => ((x7 = 0 → post x5 S8) ∧ (¬ (x7 = 0) → (((S8 0 28) = 0 → wX6_number S8 J x6 (15 : Int32) (fun S17 => ∀ x19 : Int32, x19 = x5 ||| ((1 : Int32) <<< ((S17 0 27) &&& 31)) → ∀ x20 : Int32, x20 = (S17 0 27) + (1 : Int32) → (((S17 0 28) = 0 → wX6_byteAt S17 J (S17 0 25) (fun r22 => wX6_isDigit r22 (fun r24 => ((r24 = 0 → K9 (x19, x20, (0 : Int32), S17)) ∧ (¬ (r24 = 0) → K9 (x19, x20, (1 : Int32), S17)))))) ∧ (¬ ((S17 0 28) = 0) → K9 (x19, x20, (0 : Int32), S17))))) ∧ (¬ ((S8 0 28) = 0) → post x5 S8))))) ((0 : Int32), (0 : Int32), (1 : Int32), S3))
set_option maxRecDepth 100000 in
set_option maxHeartbeats 4000000 in
theorem kX6_cells (l : Launch) (g : Gl)  (q : Nat → Nat) (sz : Nat) (S : Bun) (J : Lon)  (post : Int32 → Bun → Prop) (h : wX6_cells S J  post) : Met l yX6_cells wsX6_cells (rmm 5 113) (wPc g E0 ((wM g q) (S, J)) sz [.ref (q 0)]) (va_Qi (fun (r : Int32) (u : Bun × Lon) => u.2 = J ∧ post r u.1) (wB g (wM g q) (va_A ((wM g q) (S, J)) sz)) (va_A ((wM g q) (S, J)) sz)) 0 0 (va_A ((wM g q) (S, J)) sz) := by
  refine mstart (Qf := fun A => va_Qi (fun (r : Int32) (u : Bun × Lon) => u.2 = J ∧ post r u.1) (wB g (wM g q) A) A) (by decide) rfl (Nat.le_of_ble_eq_true rfl) ?_
  intro p e s m args below meth c A Q H locs ls hC hr hlocks hname hQ hA hK hE hw hl
  have hC : CallFix p m c cX6_cells 4 s args wsX6_cells RX6 := hC
  obtain ⟨hx, hb, -, hown, hts⟩ := id hC
  have hl : lv_has ls 4 [(0, .ref (q 0))] := hl
  rw [wX6_cells] at h
  have hinX6 : ∀ w ∈ wsX60, w ∈ wsX6_cells := fun w hw9 => List.mem_cons_of_mem _ (List.mem_append_right _ hw9)
  refine lv_aload_n hx hb dX6_cells_0 rfl (lv_at hl 0 rfl) ?_
  refine lv_iconst (v := (1 : Int32)) hx hb dX6_cells_1 (by decide) ?_
  refine mcallv (w1 := (wM g q)) (va_runV (As := [.int (1 : Int32)]) (rest := []) hC (kX6_needs l g  q H.size S J (1 : Int32) _ h) (cwV 1 hts gX6_cells_X6_needs rfl rfl rfl (by decide +kernel) ⟨Nat.le_of_ble_eq_true rfl, Nat.le_of_ble_eq_true rfl⟩) (mpreV E0_ok hK hE hA hw (Sub1.refl _) 0 rfl rfl) rfl rfl hl.1 rfl (lv_room (Nat.le_of_ble_eq_true rfl)) dX6_cells_2 ⟨Nat.zero_le _, Nat.zero_le _⟩) hA hw (Sub1.refl _) (fun _ => Sub.whole rfl) (fun u2 H locs h hw => ?_)
  obtain ⟨S3, J4⟩ := u2
  obtain ⟨hu, h⟩ := h
  replace hu : J = J4 := hu.symm
  subst hu
  refine lv_iconst (v := (0 : Int32)) hx hb dX6_cells_5 (by decide) ?_
  refine lv_istore_n (lv' := [(1, .int (0 : Int32)), (0, .ref (q 0))]) hx hb dX6_cells_6 rfl hl (by decide) rfl (fun ls hl => ?_)
  refine lv_iconst (v := (0 : Int32)) hx hb dX6_cells_7 (by decide) ?_
  refine lv_istore_n (lv' := [(2, .int (0 : Int32)), (1, .int (0 : Int32)), (0, .ref (q 0))]) hx hb dX6_cells_8 rfl hl (by decide) rfl (fun ls hl => ?_)
  refine lv_iconst (v := (1 : Int32)) hx hb dX6_cells_9 (by decide) ?_
  refine lv_istore_n (lv' := [(3, .int (1 : Int32)), (2, .int (0 : Int32)), (1, .int (0 : Int32)), (0, .ref (q 0))]) hx hb dX6_cells_10 rfl hl (by decide) rfl (fun ls hl => ?_)
  refine h (fun z => match z with | (x5, x6, x7, S8) => ∀ (H : Heap) (locs : List Loc) (ls : Array Slot), Wd g.1 A s.heap ((wM g q) (S8, J)) H locs → lv_has ls 4 [(0, .ref (q 0)), (1, .int x5), (2, .int x6), (3, .int x7)] → W p l e (rmm 5 113) s m args below meth c H locs 0 0 Q (F0 m 11 ls [])) ?_ _ _ _ hw (lv_sub hl [3, 2, 1, 0] rfl)
  clear h hw hl
  rintro ⟨x5, x6, x7, S8⟩ h H locs ls hw hl
  refine lv_iload_n hx hb dX6_cells_11 rfl (lv_at hl 3 rfl) ?_
  refine lv_if_eq (tgt := 75) hx hb dX6_cells_12 (by decide) (fun c31 => ?_) (fun c31 => ?_)
  · replace h := h.1 c31
    refine lv_iload_n hx hb dX6_cells_75 rfl (lv_at hl 1 rfl) ?_
    rw [hQ]
    exact mreti (w := (wM g q)) (u := (S8, J)) hC hr hlocks hK hw ⟨rfl, h⟩ dX6_cells_76
  · replace h := h.2 c31
    refine lv_aload_n hx hb dX6_cells_15 rfl (lv_at hl 0 rfl) ?_
    refine M_mg28 hC hinX6 hK hw (List.mem_of_getElem? (i := 1) rfl) dX6_cells_16 ?_
    refine lv_if_ne (tgt := 75) hx hb dX6_cells_19 (by decide) (fun c30 => ?_) (fun c30 => ?_)
    · replace h := h.2 c30
      refine lv_iload_n hx hb dX6_cells_75 rfl (lv_at hl 1 rfl) ?_
      rw [hQ]
      exact mreti (w := (wM g q)) (u := (S8, J)) hC hr hlocks hK hw ⟨rfl, h⟩ dX6_cells_76
    · replace h := h.1 c30
      refine lv_aload_n hx hb dX6_cells_22 rfl (lv_at hl 0 rfl) ?_
      refine lv_iload_n hx hb dX6_cells_23 rfl (lv_at hl 2 rfl) ?_
      refine lv_bipush (v := (15 : Int32)) hx hb dX6_cells_24 (by decide) ?_
      refine mcallv (w1 := (wM g q)) (va_runV (As := [.int x6, .int (15 : Int32)]) (rest := []) hC (kX6_number l g  q H.size S8 J x6 (15 : Int32) _ h) (cwV 2 hts gX6_cells_X6_number rfl rfl rfl (by decide +kernel) ⟨Nat.le_of_ble_eq_true rfl, Nat.le_of_ble_eq_true rfl⟩) (mpreV E0_ok hK hE hA hw (Sub1.refl _) 0 rfl rfl) rfl rfl hl.1 rfl (lv_room (Nat.le_of_ble_eq_true rfl)) dX6_cells_26 ⟨Nat.zero_le _, Nat.zero_le _⟩) hA hw (Sub1.refl _) (fun _ => Sub.whole rfl) (fun u16 H locs h hw => ?_)
      obtain ⟨S17, J18⟩ := u16
      obtain ⟨hu, h⟩ := h
      replace hu : J = J18 := hu.symm
      subst hu
      refine lv_iload_n hx hb dX6_cells_29 rfl (lv_at hl 1 rfl) ?_
      refine lv_iconst (v := (1 : Int32)) hx hb dX6_cells_30 (by decide) ?_
      refine lv_aload_n hx hb dX6_cells_31 rfl (lv_at hl 0 rfl) ?_
      refine M_mg27 hC hinX6 hK hw (List.mem_of_getElem? (i := 2) rfl) dX6_cells_32 ?_
      refine lv_ishl hx hb dX6_cells_35 ?_
      refine lv_ior hx hb dX6_cells_36 ?_
      refine lv_topi (fun x19 ex19 => ?_)
      replace h := h x19 ex19
      refine lv_istore_n (lv' := [(1, .int x19), (0, .ref (q 0)), (2, .int x6), (3, .int x7)]) hx hb dX6_cells_37 rfl hl (by decide) rfl (fun ls hl => ?_)
      refine lv_aload_n hx hb dX6_cells_38 rfl (lv_at hl 1 rfl) ?_
      refine M_mg27 hC hinX6 hK hw (List.mem_of_getElem? (i := 2) rfl) dX6_cells_39 ?_
      refine lv_iconst (v := (1 : Int32)) hx hb dX6_cells_42 (by decide) ?_
      refine lv_iadd hx hb dX6_cells_43 ?_
      refine lv_topi (fun x20 ex20 => ?_)
      replace h := h x20 ex20
      refine lv_istore_n (lv' := [(2, .int x20), (1, .int x19), (0, .ref (q 0)), (3, .int x7)]) hx hb dX6_cells_44 rfl hl (by decide) rfl (fun ls hl => ?_)
      refine lv_aload_n hx hb dX6_cells_45 rfl (lv_at hl 2 rfl) ?_
      refine M_mg28 hC hinX6 hK hw (List.mem_of_getElem? (i := 1) rfl) dX6_cells_46 ?_
      refine lv_if_ne (tgt := 70) hx hb dX6_cells_49 (by decide) (fun c29 => ?_) (fun c29 => ?_)
      · replace h := h.2 c29
        refine lv_iconst (v := (0 : Int32)) hx hb dX6_cells_70 (by decide) ?_
        refine lv_istore_n (lv' := [(3, .int (0 : Int32)), (2, .int x20), (1, .int x19), (0, .ref (q 0))]) hx hb dX6_cells_71 rfl hl (by decide) rfl (fun ls hl => ?_)
        refine lv_goto (tgt := 11) hx hb dX6_cells_72 (by decide) ?_
        exact h _ _ _ hw (lv_sub hl [3, 2, 1, 0] rfl)
      · replace h := h.1 c29
        refine lv_aload_n hx hb dX6_cells_52 rfl (lv_at hl 2 rfl) ?_
        refine lv_aload_n hx hb dX6_cells_53 rfl (lv_at hl 2 rfl) ?_
        refine M_mg25 hC hinX6 hK hw (List.mem_of_getElem? (i := 3) rfl) dX6_cells_54 ?_
        refine mcalli (w1 := (wM g q)) (va_runV (As := [.int (S17 0 25)]) (rest := []) hC (kX6_byteAt l g  q H.size S17 J (S17 0 25) _ h) (cwV 1 hts gX6_cells_X6_byteAt rfl rfl rfl (by decide +kernel) ⟨Nat.le_of_ble_eq_true rfl, Nat.le_of_ble_eq_true rfl⟩) (mpreV E0_ok hK hE hA hw (Sub1.refl _) 0 rfl rfl) rfl rfl hl.1 rfl (lv_room (Nat.le_of_ble_eq_true rfl)) dX6_cells_57 ⟨Nat.zero_le _, Nat.zero_le _⟩) hA hw (Sub1.refl _) (fun _ => Sub.whole rfl) (fun r22 u23 H locs h hw => ?_)
        obtain ⟨hu, h⟩ := h
        replace hu := hu.symm
        subst hu
        refine mcalli (w1 := (fun _ => (wM g q) (S17, J))) (wc := fun _ : Unit => ([] : va_W)) (u := ()) (va_runS (As := [.int r22]) (rest := []) hC (kX6_isDigit l g  H.size r22 _ h) (va_cwS 1 hts gX6_cells_X6_isDigit rfl rfl rfl (by decide +kernel) ⟨Nat.le_of_ble_eq_true rfl, Nat.le_of_ble_eq_true rfl⟩) (mpre E0_ok hK hE hA hw (Sub1.nil _)) rfl rfl hl.1 rfl (lv_room (Nat.le_of_ble_eq_true rfl)) dX6_cells_60 ⟨Nat.zero_le _, Nat.zero_le _⟩) hA hw (Sub1.nil _) (fun _ => Sub.nil _) (fun r24 u25 H locs h hw => ?_)
        obtain ⟨_, h⟩ := h
        refine lv_if_eq (tgt := 70) hx hb dX6_cells_63 (by decide) (fun c28 => ?_) (fun c28 => ?_)
        · replace h := h.1 c28
          refine lv_iconst (v := (0 : Int32)) hx hb dX6_cells_70 (by decide) ?_
          refine lv_istore_n (lv' := [(3, .int (0 : Int32)), (2, .int x20), (1, .int x19), (0, .ref (q 0))]) hx hb dX6_cells_71 rfl hl (by decide) rfl (fun ls hl => ?_)
          refine lv_goto (tgt := 11) hx hb dX6_cells_72 (by decide) ?_
          exact h _ _ _ hw (lv_sub hl [3, 2, 1, 0] rfl)
        · replace h := h.2 c28
          refine lv_iconst (v := (1 : Int32)) hx hb dX6_cells_66 (by decide) ?_
          refine lv_goto (tgt := 71) hx hb dX6_cells_67 (by decide) ?_
          refine lv_istore_n (lv' := [(3, .int (1 : Int32)), (2, .int x20), (1, .int x19), (0, .ref (q 0))]) hx hb dX6_cells_71 rfl hl (by decide) rfl (fun ls hl => ?_)
          refine lv_goto (tgt := 11) hx hb dX6_cells_72 (by decide) ?_
          exact h _ _ _ hw (lv_sub hl [3, 2, 1, 0] rfl)
def wX6_perhaps (S : Bun) (J : Lon) (a1 : Int32) (a2 : Int32) (a3 : Int32) (post : Int32 → Bun → Prop) : Prop :=
  (((S 0 28) = 0 → ((a1 = 0 → post a3 S) ∧ (¬ (a1 = 0) → wX6_needs S J (1 : Int32) (fun S3 => wX6_number S3 J (0 : Int32) a2 (fun S7 => post (S7 0 27) S7))))) ∧ (¬ ((S 0 28) = 0) → post a3 S))
set_option maxRecDepth 100000 in
set_option maxHeartbeats 4000000 in
theorem kX6_perhaps (l : Launch) (g : Gl)  (q : Nat → Nat) (sz : Nat) (S : Bun) (J : Lon) (a1 : Int32) (a2 : Int32) (a3 : Int32) (post : Int32 → Bun → Prop) (h : wX6_perhaps S J a1 a2 a3 post) : Met l yX6_perhaps wsX6_perhaps (rmm 5 113) (wPc g E0 ((wM g q) (S, J)) sz [.ref (q 0), .int a1, .int a2, .int a3]) (va_Qi (fun (r : Int32) (u : Bun × Lon) => u.2 = J ∧ post r u.1) (wB g (wM g q) (va_A ((wM g q) (S, J)) sz)) (va_A ((wM g q) (S, J)) sz)) 0 0 (va_A ((wM g q) (S, J)) sz) := by
  refine mstart (Qf := fun A => va_Qi (fun (r : Int32) (u : Bun × Lon) => u.2 = J ∧ post r u.1) (wB g (wM g q) A) A) (by decide) rfl (Nat.le_of_ble_eq_true rfl) ?_
  intro p e s m args below meth c A Q H locs ls hC hr hlocks hname hQ hA hK hE hw hl
  have hC : CallFix p m c cX6_perhaps 4 s args wsX6_perhaps RX6 := hC
  obtain ⟨hx, hb, -, hown, hts⟩ := id hC
  have hl : lv_has ls 4 [(0, .ref (q 0)), (1, .int a1), (2, .int a2), (3, .int a3)] := hl
  rw [wX6_perhaps] at h
  have hinX6 : ∀ w ∈ wsX60, w ∈ wsX6_perhaps := fun w hw9 => List.mem_cons_of_mem _ (List.mem_append_right _ hw9)
  refine lv_aload_n hx hb dX6_perhaps_0 rfl (lv_at hl 0 rfl) ?_
  refine M_mg28 hC hinX6 hK hw (List.mem_of_getElem? (i := 1) rfl) dX6_perhaps_1 ?_
  refine lv_if_ne (tgt := 11) hx hb dX6_perhaps_4 (by decide) (fun c10 => ?_) (fun c10 => ?_)
  · replace h := h.2 c10
    refine lv_iload_n hx hb dX6_perhaps_11 rfl (lv_at hl 3 rfl) ?_
    rw [hQ]
    exact mreti (w := (wM g q)) (u := (S, J)) hC hr hlocks hK hw ⟨rfl, h⟩ dX6_perhaps_12
  · replace h := h.1 c10
    refine lv_iload_n hx hb dX6_perhaps_7 rfl (lv_at hl 1 rfl) ?_
    refine lv_if_ne (tgt := 13) hx hb dX6_perhaps_8 (by decide) (fun c9 => ?_) (fun c9 => ?_)
    · replace h := h.2 c9
      refine lv_aload_n hx hb dX6_perhaps_13 rfl (lv_at hl 0 rfl) ?_
      refine lv_iconst (v := (1 : Int32)) hx hb dX6_perhaps_14 (by decide) ?_
      refine mcallv (w1 := (wM g q)) (va_runV (As := [.int (1 : Int32)]) (rest := []) hC (kX6_needs l g  q H.size S J (1 : Int32) _ h) (cwV 1 hts gX6_perhaps_X6_needs rfl rfl rfl (by decide +kernel) ⟨Nat.le_of_ble_eq_true rfl, Nat.le_of_ble_eq_true rfl⟩) (mpreV E0_ok hK hE hA hw (Sub1.refl _) 0 rfl rfl) rfl rfl hl.1 rfl (lv_room (Nat.le_of_ble_eq_true rfl)) dX6_perhaps_15 ⟨Nat.zero_le _, Nat.zero_le _⟩) hA hw (Sub1.refl _) (fun _ => Sub.whole rfl) (fun u2 H locs h hw => ?_)
      obtain ⟨S3, J4⟩ := u2
      obtain ⟨hu, h⟩ := h
      replace hu : J = J4 := hu.symm
      subst hu
      refine lv_aload_n hx hb dX6_perhaps_18 rfl (lv_at hl 0 rfl) ?_
      refine lv_iconst (v := (0 : Int32)) hx hb dX6_perhaps_19 (by decide) ?_
      refine lv_iload_n hx hb dX6_perhaps_20 rfl (lv_at hl 2 rfl) ?_
      refine mcallv (w1 := (wM g q)) (va_runV (As := [.int (0 : Int32), .int a2]) (rest := []) hC (kX6_number l g  q H.size S3 J (0 : Int32) a2 _ h) (cwV 2 hts gX6_perhaps_X6_number rfl rfl rfl (by decide +kernel) ⟨Nat.le_of_ble_eq_true rfl, Nat.le_of_ble_eq_true rfl⟩) (mpreV E0_ok hK hE hA hw (Sub1.refl _) 0 rfl rfl) rfl rfl hl.1 rfl (lv_room (Nat.le_of_ble_eq_true rfl)) dX6_perhaps_21 ⟨Nat.zero_le _, Nat.zero_le _⟩) hA hw (Sub1.refl _) (fun _ => Sub.whole rfl) (fun u6 H locs h hw => ?_)
      obtain ⟨S7, J8⟩ := u6
      obtain ⟨hu, h⟩ := h
      replace hu : J = J8 := hu.symm
      subst hu
      refine lv_aload_n hx hb dX6_perhaps_24 rfl (lv_at hl 0 rfl) ?_
      refine M_mg27 hC hinX6 hK hw (List.mem_of_getElem? (i := 2) rfl) dX6_perhaps_25 ?_
      rw [hQ]
      exact mreti (w := (wM g q)) (u := (S7, J)) hC hr hlocks hK hw ⟨rfl, h⟩ dX6_perhaps_28
    · replace h := h.1 c9
      refine lv_iload_n hx hb dX6_perhaps_11 rfl (lv_at hl 3 rfl) ?_
      rw [hQ]
      exact mreti (w := (wM g q)) (u := (S, J)) hC hr hlocks hK hw ⟨rfl, h⟩ dX6_perhaps_12
def wX6_fieldItem (S : Bun) (J : Lon)  (post : Bun → Prop) : Prop :=
  vp_in (0 : Int32) 56 ∧ wjoin (σ := Int32) (fun y1 => wX6_needs S J y1 (fun S7 => wX6_isWord S7 J (115 : Int32) (116 : Int32) (111 : Int32) (110 : Int32) (101 : Int32) (115 : Int32) (0 : Int32) (fun r9 => wjoin (σ := Int32 × Bun) (fun z => match z with | (y11, S12) => wX6_isWord S12 J (116 : Int32) (114 : Int32) (101 : Int32) (101 : Int32) (115 : Int32) (0 : Int32) (0 : Int32) (fun r16 => wjoin (σ := Int32 × Bun) (fun z => match z with | (y18, S19) => wX6_isWord S19 J (105 : Int32) (110 : Int32) (0 : Int32) (0 : Int32) (0 : Int32) (0 : Int32) (0 : Int32) (fun r23 => wX6_perhaps S19 J r23 (15 : Int32) (-1 : Int32) (fun r25 S27 => wX6_isWord S27 J (111 : Int32) (117 : Int32) (116 : Int32) (0 : Int32) (0 : Int32) (0 : Int32) (0 : Int32) (fun r29 => wX6_perhaps S27 J r29 (15 : Int32) (-1 : Int32) (fun r31 S33 => wX6_isWord S33 J (119 : Int32) (101 : Int32) (116 : Int32) (0 : Int32) (0 : Int32) (0 : Int32) (0 : Int32) (fun r35 => wX6_perhaps S33 J r35 (99 : Int32) (0 : Int32) (fun r37 S39 => (((S39 0 28) = 0 → wX6_newField S39 J  (fun r41 S43 => ∀ x45 : Int32, x45 = (2 : Int32) + ((6 : Int32) * r41) → vp_in (x45 + (0 : Int32)) 56 ∧ ∀ S46 : Bun, S46 = up S43 1 (x45 + (0 : Int32)).toNatClampNeg y11 → vp_in (x45 + (1 : Int32)) 56 ∧ ∀ S47 : Bun, S47 = up S46 1 (x45 + (1 : Int32)).toNatClampNeg y18 → vp_in (x45 + (2 : Int32)) 56 ∧ ∀ S48 : Bun, S48 = up S47 1 (x45 + (2 : Int32)).toNatClampNeg r25 → vp_in (x45 + (3 : Int32)) 56 ∧ ∀ S49 : Bun, S49 = up S48 1 (x45 + (3 : Int32)).toNatClampNeg r31 → vp_in (x45 + (4 : Int32)) 56 ∧ ∀ S50 : Bun, S50 = up S49 1 (x45 + (4 : Int32)).toNatClampNeg r37 → post S50)) ∧ (¬ ((S39 0 28) = 0) → post S39))))))))) (fun J20 => ((r16 = 0 → J20 ((0 : Int32), S12)) ∧ (¬ (r16 = 0) → wX6_cells S12 J  (fun r52 S54 => J20 (r52, S54))))))) (fun J13 => ((r9 = 0 → J13 ((0 : Int32), S7)) ∧ (¬ (r9 = 0) → wX6_cells S7 J  (fun r57 S59 => J13 (r57, S59)))))))) (fun J2 => (((6 : Int32) ≤ (S 1 (0 : Int32).toNatClampNeg) → J2 (0 : Int32)) ∧ (¬ ((6 : Int32) ≤ (S 1 (0 : Int32).toNatClampNeg)) → J2 (1 : Int32))))
set_option maxRecDepth 100000 in
set_option maxHeartbeats 4000000 in
theorem kX6_fieldItem (l : Launch) (g : Gl)  (q : Nat → Nat) (sz : Nat) (S : Bun) (J : Lon)  (post : Bun → Prop) (h : wX6_fieldItem S J  post) : Met l yX6_fieldItem wsX6_fieldItem (rmm 6 136) (wPc g E0 ((wM g q) (S, J)) sz [.ref (q 0)]) (va_Qv (fun (u : Bun × Lon) => u.2 = J ∧ post u.1) (wB g (wM g q) (va_A ((wM g q) (S, J)) sz)) (va_A ((wM g q) (S, J)) sz)) 0 0 (va_A ((wM g q) (S, J)) sz) := by
  refine mstart (Qf := fun A => va_Qv (fun (u : Bun × Lon) => u.2 = J ∧ post u.1) (wB g (wM g q) A) A) (by decide) rfl (Nat.le_of_ble_eq_true rfl) ?_
  intro p e s m args below meth c A Q H locs ls hC hr hlocks hname hQ hA hK hE hw hl
  have hC : CallFix p m c cX6_fieldItem 7 s args wsX6_fieldItem RX6 := hC
  obtain ⟨hx, hb, -, hown, hts⟩ := id hC
  have hl : lv_has ls 7 [(0, .ref (q 0))] := hl
  rw [wX6_fieldItem] at h
  have hinX6 : ∀ w ∈ wsX60, w ∈ wsX6_fieldItem := fun w hw9 => List.mem_cons_of_mem _ (List.mem_append_right _ hw9)
  refine lv_aload_n hx hb dX6_fieldItem_0 rfl (lv_at hl 0 rfl) ?_
  refine lv_aload_n hx hb dX6_fieldItem_1 rfl (lv_at hl 0 rfl) ?_
  refine M_mg0 hC hinX6 hK hw (List.mem_of_getElem? (i := 1) rfl) dX6_fieldItem_2 ?_
  refine lv_iconst (v := (0 : Int32)) hx hb dX6_fieldItem_5 (by decide) ?_
  obtain ⟨hi, h⟩ := h
  refine M_ml0 hC hK hw hi dX6_fieldItem_6 ?_
  refine lv_bipush (v := (6 : Int32)) hx hb dX6_fieldItem_7 (by decide) ?_
  obtain ⟨J2, hJ3, h⟩ := h
  have join4 : ∀ (y1 : Int32) (H : Heap) (locs : List Loc) (ls : Array Slot), J2 y1 → Wd g.1 A s.heap ((wM g q) (S, J)) H locs → lv_has ls 7 [(0, .ref (q 0))] → W p l e (rmm 6 136) s m args below meth c H locs 0 0 Q (F0 m 17 ls [.int y1, .ref (q 0)]) := by
    intro y1 H locs ls h hw hl
    replace h := hJ3 y1 h
    refine mcallv (w1 := (wM g q)) (va_runV (As := [.int y1]) (rest := []) hC (kX6_needs l g  q H.size S J y1 _ h) (cwV 1 hts gX6_fieldItem_X6_needs rfl rfl rfl (by decide +kernel) ⟨Nat.le_of_ble_eq_true rfl, Nat.le_of_ble_eq_true rfl⟩) (mpreV E0_ok hK hE hA hw (Sub1.refl _) 0 rfl rfl) rfl rfl hl.1 rfl (lv_room (Nat.le_of_ble_eq_true rfl)) dX6_fieldItem_17 ⟨Nat.zero_le _, Nat.zero_le _⟩) hA hw (Sub1.refl _) (fun _ => Sub.whole rfl) (fun u6 H locs h hw => ?_)
    obtain ⟨S7, J8⟩ := u6
    obtain ⟨hu, h⟩ := h
    replace hu : J = J8 := hu.symm
    subst hu
    refine lv_aload_n hx hb dX6_fieldItem_20 rfl (lv_at hl 0 rfl) ?_
    refine lv_bipush (v := (115 : Int32)) hx hb dX6_fieldItem_21 (by decide) ?_
    refine lv_bipush (v := (116 : Int32)) hx hb dX6_fieldItem_23 (by decide) ?_
    refine lv_bipush (v := (111 : Int32)) hx hb dX6_fieldItem_25 (by decide) ?_
    refine lv_bipush (v := (110 : Int32)) hx hb dX6_fieldItem_27 (by decide) ?_
    refine lv_bipush (v := (101 : Int32)) hx hb dX6_fieldItem_29 (by decide) ?_
    refine lv_bipush (v := (115 : Int32)) hx hb dX6_fieldItem_31 (by decide) ?_
    refine lv_iconst (v := (0 : Int32)) hx hb dX6_fieldItem_33 (by decide) ?_
    refine mcalli (w1 := (wM g q)) (va_runV (As := [.int (115 : Int32), .int (116 : Int32), .int (111 : Int32), .int (110 : Int32), .int (101 : Int32), .int (115 : Int32), .int (0 : Int32)]) (rest := []) hC (kX6_isWord l g  q H.size S7 J (115 : Int32) (116 : Int32) (111 : Int32) (110 : Int32) (101 : Int32) (115 : Int32) (0 : Int32) _ h) (cwV 7 hts gX6_fieldItem_X6_isWord rfl rfl rfl (by decide +kernel) ⟨Nat.le_of_ble_eq_true rfl, Nat.le_of_ble_eq_true rfl⟩) (mpreV E0_ok hK hE hA hw (Sub1.refl _) 0 rfl rfl) rfl rfl hl.1 rfl (lv_room (Nat.le_of_ble_eq_true rfl)) dX6_fieldItem_34 ⟨Nat.zero_le _, Nat.zero_le _⟩) hA hw (Sub1.refl _) (fun _ => Sub.whole rfl) (fun r9 u10 H locs h hw => ?_)
    obtain ⟨hu, h⟩ := h
    replace hu := hu.symm
    subst hu
    obtain ⟨J13, hJ14, h⟩ := h
    have join15 : ∀ (y11 : Int32) (S12 : Bun) (H : Heap) (locs : List Loc) (ls : Array Slot), J13 (y11, S12) → Wd g.1 A s.heap ((wM g q) (S12, J)) H locs → lv_has ls 7 [(0, .ref (q 0))] → W p l e (rmm 6 136) s m args below meth c H locs 0 0 Q (F0 m 48 ls [.int y11]) := by
      intro y11 S12 H locs ls h hw hl
      replace h := hJ14 (y11, S12) h
      refine lv_istore_n (lv' := [(1, .int y11), (0, .ref (q 0))]) hx hb dX6_fieldItem_48 rfl hl (by decide) rfl (fun ls hl => ?_)
      refine lv_aload_n hx hb dX6_fieldItem_49 rfl (lv_at hl 1 rfl) ?_
      refine lv_bipush (v := (116 : Int32)) hx hb dX6_fieldItem_50 (by decide) ?_
      refine lv_bipush (v := (114 : Int32)) hx hb dX6_fieldItem_52 (by decide) ?_
      refine lv_bipush (v := (101 : Int32)) hx hb dX6_fieldItem_54 (by decide) ?_
      refine lv_bipush (v := (101 : Int32)) hx hb dX6_fieldItem_56 (by decide) ?_
      refine lv_bipush (v := (115 : Int32)) hx hb dX6_fieldItem_58 (by decide) ?_
      refine lv_iconst (v := (0 : Int32)) hx hb dX6_fieldItem_60 (by decide) ?_
      refine lv_iconst (v := (0 : Int32)) hx hb dX6_fieldItem_61 (by decide) ?_
      refine mcalli (w1 := (wM g q)) (va_runV (As := [.int (116 : Int32), .int (114 : Int32), .int (101 : Int32), .int (101 : Int32), .int (115 : Int32), .int (0 : Int32), .int (0 : Int32)]) (rest := []) hC (kX6_isWord l g  q H.size S12 J (116 : Int32) (114 : Int32) (101 : Int32) (101 : Int32) (115 : Int32) (0 : Int32) (0 : Int32) _ h) (cwV 7 hts gX6_fieldItem_X6_isWord rfl rfl rfl (by decide +kernel) ⟨Nat.le_of_ble_eq_true rfl, Nat.le_of_ble_eq_true rfl⟩) (mpreV E0_ok hK hE hA hw (Sub1.refl _) 0 rfl rfl) rfl rfl hl.1 rfl (lv_room (Nat.le_of_ble_eq_true rfl)) dX6_fieldItem_62 ⟨Nat.zero_le _, Nat.zero_le _⟩) hA hw (Sub1.refl _) (fun _ => Sub.whole rfl) (fun r16 u17 H locs h hw => ?_)
      obtain ⟨hu, h⟩ := h
      replace hu := hu.symm
      subst hu
      obtain ⟨J20, hJ21, h⟩ := h
      have join22 : ∀ (y18 : Int32) (S19 : Bun) (H : Heap) (locs : List Loc) (ls : Array Slot), J20 (y18, S19) → Wd g.1 A s.heap ((wM g q) (S19, J)) H locs → lv_has ls 7 [(0, .ref (q 0)), (1, .int y11)] → W p l e (rmm 6 136) s m args below meth c H locs 0 0 Q (F0 m 76 ls [.int y18]) := by
        intro y18 S19 H locs ls h hw hl
        replace h := hJ21 (y18, S19) h
        refine lv_istore_n (lv' := [(2, .int y18), (0, .ref (q 0)), (1, .int y11)]) hx hb dX6_fieldItem_76 rfl hl (by decide) rfl (fun ls hl => ?_)
        refine lv_aload_n hx hb dX6_fieldItem_77 rfl (lv_at hl 1 rfl) ?_
        refine lv_aload_n hx hb dX6_fieldItem_78 rfl (lv_at hl 1 rfl) ?_
        refine lv_bipush (v := (105 : Int32)) hx hb dX6_fieldItem_79 (by decide) ?_
        refine lv_bipush (v := (110 : Int32)) hx hb dX6_fieldItem_81 (by decide) ?_
        refine lv_iconst (v := (0 : Int32)) hx hb dX6_fieldItem_83 (by decide) ?_
        refine lv_iconst (v := (0 : Int32)) hx hb dX6_fieldItem_84 (by decide) ?_
        refine lv_iconst (v := (0 : Int32)) hx hb dX6_fieldItem_85 (by decide) ?_
        refine lv_iconst (v := (0 : Int32)) hx hb dX6_fieldItem_86 (by decide) ?_
        refine lv_iconst (v := (0 : Int32)) hx hb dX6_fieldItem_87 (by decide) ?_
        refine mcalli (w1 := (wM g q)) (va_runV (As := [.int (105 : Int32), .int (110 : Int32), .int (0 : Int32), .int (0 : Int32), .int (0 : Int32), .int (0 : Int32), .int (0 : Int32)]) (rest := [.ref (q 0)]) hC (kX6_isWord l g  q H.size S19 J (105 : Int32) (110 : Int32) (0 : Int32) (0 : Int32) (0 : Int32) (0 : Int32) (0 : Int32) _ h) (cwV 7 hts gX6_fieldItem_X6_isWord rfl rfl rfl (by decide +kernel) ⟨Nat.le_of_ble_eq_true rfl, Nat.le_of_ble_eq_true rfl⟩) (mpreV E0_ok hK hE hA hw (Sub1.refl _) 0 rfl rfl) rfl rfl hl.1 rfl (lv_room (Nat.le_of_ble_eq_true rfl)) dX6_fieldItem_88 ⟨Nat.zero_le _, Nat.zero_le _⟩) hA hw (Sub1.refl _) (fun _ => Sub.whole rfl) (fun r23 u24 H locs h hw => ?_)
        obtain ⟨hu, h⟩ := h
        replace hu := hu.symm
        subst hu
        refine lv_bipush (v := (15 : Int32)) hx hb dX6_fieldItem_91 (by decide) ?_
        refine lv_iconst (v := (-1 : Int32)) hx hb dX6_fieldItem_93 (by decide) ?_
        refine mcalli (w1 := (wM g q)) (va_runV (As := [.int r23, .int (15 : Int32), .int (-1 : Int32)]) (rest := []) hC (kX6_perhaps l g  q H.size S19 J r23 (15 : Int32) (-1 : Int32) _ h) (cwV 3 hts gX6_fieldItem_X6_perhaps rfl rfl rfl (by decide +kernel) ⟨Nat.le_of_ble_eq_true rfl, Nat.le_of_ble_eq_true rfl⟩) (mpreV E0_ok hK hE hA hw (Sub1.refl _) 0 rfl rfl) rfl rfl hl.1 rfl (lv_room (Nat.le_of_ble_eq_true rfl)) dX6_fieldItem_94 ⟨Nat.zero_le _, Nat.zero_le _⟩) hA hw (Sub1.refl _) (fun _ => Sub.whole rfl) (fun r25 u26 H locs h hw => ?_)
        obtain ⟨S27, J28⟩ := u26
        obtain ⟨hu, h⟩ := h
        replace hu : J = J28 := hu.symm
        subst hu
        refine lv_istore_n (lv' := [(3, .int r25), (2, .int y18), (0, .ref (q 0)), (1, .int y11)]) hx hb dX6_fieldItem_97 rfl hl (by decide) rfl (fun ls hl => ?_)
        refine lv_aload_n hx hb dX6_fieldItem_98 rfl (lv_at hl 2 rfl) ?_
        refine lv_aload_n hx hb dX6_fieldItem_99 rfl (lv_at hl 2 rfl) ?_
        refine lv_bipush (v := (111 : Int32)) hx hb dX6_fieldItem_100 (by decide) ?_
        refine lv_bipush (v := (117 : Int32)) hx hb dX6_fieldItem_102 (by decide) ?_
        refine lv_bipush (v := (116 : Int32)) hx hb dX6_fieldItem_104 (by decide) ?_
        refine lv_iconst (v := (0 : Int32)) hx hb dX6_fieldItem_106 (by decide) ?_
        refine lv_iconst (v := (0 : Int32)) hx hb dX6_fieldItem_107 (by decide) ?_
        refine lv_iconst (v := (0 : Int32)) hx hb dX6_fieldItem_108 (by decide) ?_
        refine lv_iconst (v := (0 : Int32)) hx hb dX6_fieldItem_109 (by decide) ?_
        refine mcalli (w1 := (wM g q)) (va_runV (As := [.int (111 : Int32), .int (117 : Int32), .int (116 : Int32), .int (0 : Int32), .int (0 : Int32), .int (0 : Int32), .int (0 : Int32)]) (rest := [.ref (q 0)]) hC (kX6_isWord l g  q H.size S27 J (111 : Int32) (117 : Int32) (116 : Int32) (0 : Int32) (0 : Int32) (0 : Int32) (0 : Int32) _ h) (cwV 7 hts gX6_fieldItem_X6_isWord rfl rfl rfl (by decide +kernel) ⟨Nat.le_of_ble_eq_true rfl, Nat.le_of_ble_eq_true rfl⟩) (mpreV E0_ok hK hE hA hw (Sub1.refl _) 0 rfl rfl) rfl rfl hl.1 rfl (lv_room (Nat.le_of_ble_eq_true rfl)) dX6_fieldItem_110 ⟨Nat.zero_le _, Nat.zero_le _⟩) hA hw (Sub1.refl _) (fun _ => Sub.whole rfl) (fun r29 u30 H locs h hw => ?_)
        obtain ⟨hu, h⟩ := h
        replace hu := hu.symm
        subst hu
        refine lv_bipush (v := (15 : Int32)) hx hb dX6_fieldItem_113 (by decide) ?_
        refine lv_iconst (v := (-1 : Int32)) hx hb dX6_fieldItem_115 (by decide) ?_
        refine mcalli (w1 := (wM g q)) (va_runV (As := [.int r29, .int (15 : Int32), .int (-1 : Int32)]) (rest := []) hC (kX6_perhaps l g  q H.size S27 J r29 (15 : Int32) (-1 : Int32) _ h) (cwV 3 hts gX6_fieldItem_X6_perhaps rfl rfl rfl (by decide +kernel) ⟨Nat.le_of_ble_eq_true rfl, Nat.le_of_ble_eq_true rfl⟩) (mpreV E0_ok hK hE hA hw (Sub1.refl _) 0 rfl rfl) rfl rfl hl.1 rfl (lv_room (Nat.le_of_ble_eq_true rfl)) dX6_fieldItem_116 ⟨Nat.zero_le _, Nat.zero_le _⟩) hA hw (Sub1.refl _) (fun _ => Sub.whole rfl) (fun r31 u32 H locs h hw => ?_)
        obtain ⟨S33, J34⟩ := u32
        obtain ⟨hu, h⟩ := h
        replace hu : J = J34 := hu.symm
        subst hu
        refine lv_istore (lv' := [(4, .int r31), (3, .int r25), (2, .int y18), (0, .ref (q 0)), (1, .int y11)]) hx hb dX6_fieldItem_119 hl (by decide) rfl (fun ls hl => ?_)
        refine lv_aload_n hx hb dX6_fieldItem_121 rfl (lv_at hl 3 rfl) ?_
        refine lv_aload_n hx hb dX6_fieldItem_122 rfl (lv_at hl 3 rfl) ?_
        refine lv_bipush (v := (119 : Int32)) hx hb dX6_fieldItem_123 (by decide) ?_
        refine lv_bipush (v := (101 : Int32)) hx hb dX6_fieldItem_125 (by decide) ?_
        refine lv_bipush (v := (116 : Int32)) hx hb dX6_fieldItem_127 (by decide) ?_
        refine lv_iconst (v := (0 : Int32)) hx hb dX6_fieldItem_129 (by decide) ?_
        refine lv_iconst (v := (0 : Int32)) hx hb dX6_fieldItem_130 (by decide) ?_
        refine lv_iconst (v := (0 : Int32)) hx hb dX6_fieldItem_131 (by decide) ?_
        refine lv_iconst (v := (0 : Int32)) hx hb dX6_fieldItem_132 (by decide) ?_
        refine mcalli (w1 := (wM g q)) (va_runV (As := [.int (119 : Int32), .int (101 : Int32), .int (116 : Int32), .int (0 : Int32), .int (0 : Int32), .int (0 : Int32), .int (0 : Int32)]) (rest := [.ref (q 0)]) hC (kX6_isWord l g  q H.size S33 J (119 : Int32) (101 : Int32) (116 : Int32) (0 : Int32) (0 : Int32) (0 : Int32) (0 : Int32) _ h) (cwV 7 hts gX6_fieldItem_X6_isWord rfl rfl rfl (by decide +kernel) ⟨Nat.le_of_ble_eq_true rfl, Nat.le_of_ble_eq_true rfl⟩) (mpreV E0_ok hK hE hA hw (Sub1.refl _) 0 rfl rfl) rfl rfl hl.1 rfl (lv_room (Nat.le_of_ble_eq_true rfl)) dX6_fieldItem_133 ⟨Nat.zero_le _, Nat.zero_le _⟩) hA hw (Sub1.refl _) (fun _ => Sub.whole rfl) (fun r35 u36 H locs h hw => ?_)
        obtain ⟨hu, h⟩ := h
        replace hu := hu.symm
        subst hu
        refine lv_bipush (v := (99 : Int32)) hx hb dX6_fieldItem_136 (by decide) ?_
        refine lv_iconst (v := (0 : Int32)) hx hb dX6_fieldItem_138 (by decide) ?_
        refine mcalli (w1 := (wM g q)) (va_runV (As := [.int r35, .int (99 : Int32), .int (0 : Int32)]) (rest := []) hC (kX6_perhaps l g  q H.size S33 J r35 (99 : Int32) (0 : Int32) _ h) (cwV 3 hts gX6_fieldItem_X6_perhaps rfl rfl rfl (by decide +kernel) ⟨Nat.le_of_ble_eq_true rfl, Nat.le_of_ble_eq_true rfl⟩) (mpreV E0_ok hK hE hA hw (Sub1.refl _) 0 rfl rfl) rfl rfl hl.1 rfl (lv_room (Nat.le_of_ble_eq_true rfl)) dX6_fieldItem_139 ⟨Nat.zero_le _, Nat.zero_le _⟩) hA hw (Sub1.refl _) (fun _ => Sub.whole rfl) (fun r37 u38 H locs h hw => ?_)
        obtain ⟨S39, J40⟩ := u38
        obtain ⟨hu, h⟩ := h
        replace hu : J = J40 := hu.symm
        subst hu
        refine lv_istore (lv' := [(5, .int r37), (4, .int r31), (3, .int r25), (2, .int y18), (0, .ref (q 0)), (1, .int y11)]) hx hb dX6_fieldItem_142 hl (by decide) rfl (fun ls hl => ?_)
        refine lv_aload_n hx hb dX6_fieldItem_144 rfl (lv_at hl 4 rfl) ?_
        refine M_mg28 hC hinX6 hK hw (List.mem_of_getElem? (i := 2) rfl) dX6_fieldItem_145 ?_
        refine lv_if_ne (tgt := 214) hx hb dX6_fieldItem_148 (by decide) (fun c51 => ?_) (fun c51 => ?_)
        · replace h := h.2 c51
          rw [hQ]
          exact mretv (w := (wM g q)) (u := (S39, J)) hC hr hlocks hK hw ⟨rfl, h⟩ dX6_fieldItem_214
        · replace h := h.1 c51
          refine lv_iconst (v := (2 : Int32)) hx hb dX6_fieldItem_151 (by decide) ?_
          refine lv_bipush (v := (6 : Int32)) hx hb dX6_fieldItem_152 (by decide) ?_
          refine lv_aload_n hx hb dX6_fieldItem_154 rfl (lv_at hl 4 rfl) ?_
          refine mcalli (w1 := (wM g q)) (va_runV (As := []) (rest := [.int (6 : Int32), .int (2 : Int32)]) hC (kX6_newField l g  q H.size S39 J  _ h) (cwV 0 hts gX6_fieldItem_X6_newField rfl rfl rfl (by decide +kernel) ⟨Nat.le_of_ble_eq_true rfl, Nat.le_of_ble_eq_true rfl⟩) (mpreV E0_ok hK hE hA hw (Sub1.refl _) 0 rfl rfl) rfl rfl hl.1 rfl (lv_room (Nat.le_of_ble_eq_true rfl)) dX6_fieldItem_155 ⟨Nat.zero_le _, Nat.zero_le _⟩) hA hw (Sub1.refl _) (fun _ => Sub.whole rfl) (fun r41 u42 H locs h hw => ?_)
          obtain ⟨S43, J44⟩ := u42
          obtain ⟨hu, h⟩ := h
          replace hu : J = J44 := hu.symm
          subst hu
          refine lv_imul hx hb dX6_fieldItem_158 ?_
          refine lv_iadd hx hb dX6_fieldItem_159 ?_
          refine lv_topi (fun x45 ex45 => ?_)
          replace h := h x45 ex45
          refine lv_istore (lv' := [(6, .int x45), (5, .int r37), (4, .int r31), (3, .int r25), (2, .int y18), (0, .ref (q 0)), (1, .int y11)]) hx hb dX6_fieldItem_160 hl (by decide) rfl (fun ls hl => ?_)
          refine lv_aload_n hx hb dX6_fieldItem_162 rfl (lv_at hl 5 rfl) ?_
          refine M_mg0 hC hinX6 hK hw (List.mem_of_getElem? (i := 1) rfl) dX6_fieldItem_163 ?_
          refine lv_iload hx hb dX6_fieldItem_166 (lv_at hl 0 rfl) ?_
          refine lv_iconst (v := (0 : Int32)) hx hb dX6_fieldItem_168 (by decide) ?_
          refine lv_iadd hx hb dX6_fieldItem_169 ?_
          refine lv_iload_n hx hb dX6_fieldItem_170 rfl (lv_at hl 6 rfl) ?_
          obtain ⟨hi, h⟩ := h
          refine M_ms0 hC hK hw hi dX6_fieldItem_171 (fun S46 H locs eS46 hw => ?_)
          replace h := h S46 eS46
          refine lv_aload_n hx hb dX6_fieldItem_172 rfl (lv_at hl 5 rfl) ?_
          refine M_mg0 hC hinX6 hK hw (List.mem_of_getElem? (i := 1) rfl) dX6_fieldItem_173 ?_
          refine lv_iload hx hb dX6_fieldItem_176 (lv_at hl 0 rfl) ?_
          refine lv_iconst (v := (1 : Int32)) hx hb dX6_fieldItem_178 (by decide) ?_
          refine lv_iadd hx hb dX6_fieldItem_179 ?_
          refine lv_iload_n hx hb dX6_fieldItem_180 rfl (lv_at hl 4 rfl) ?_
          obtain ⟨hi, h⟩ := h
          refine M_ms0 hC hK hw hi dX6_fieldItem_181 (fun S47 H locs eS47 hw => ?_)
          replace h := h S47 eS47
          refine lv_aload_n hx hb dX6_fieldItem_182 rfl (lv_at hl 5 rfl) ?_
          refine M_mg0 hC hinX6 hK hw (List.mem_of_getElem? (i := 1) rfl) dX6_fieldItem_183 ?_
          refine lv_iload hx hb dX6_fieldItem_186 (lv_at hl 0 rfl) ?_
          refine lv_iconst (v := (2 : Int32)) hx hb dX6_fieldItem_188 (by decide) ?_
          refine lv_iadd hx hb dX6_fieldItem_189 ?_
          refine lv_iload_n hx hb dX6_fieldItem_190 rfl (lv_at hl 3 rfl) ?_
          obtain ⟨hi, h⟩ := h
          refine M_ms0 hC hK hw hi dX6_fieldItem_191 (fun S48 H locs eS48 hw => ?_)
          replace h := h S48 eS48
          refine lv_aload_n hx hb dX6_fieldItem_192 rfl (lv_at hl 5 rfl) ?_
          refine M_mg0 hC hinX6 hK hw (List.mem_of_getElem? (i := 1) rfl) dX6_fieldItem_193 ?_
          refine lv_iload hx hb dX6_fieldItem_196 (lv_at hl 0 rfl) ?_
          refine lv_iconst (v := (3 : Int32)) hx hb dX6_fieldItem_198 (by decide) ?_
          refine lv_iadd hx hb dX6_fieldItem_199 ?_
          refine lv_iload hx hb dX6_fieldItem_200 (lv_at hl 2 rfl) ?_
          obtain ⟨hi, h⟩ := h
          refine M_ms0 hC hK hw hi dX6_fieldItem_202 (fun S49 H locs eS49 hw => ?_)
          replace h := h S49 eS49
          refine lv_aload_n hx hb dX6_fieldItem_203 rfl (lv_at hl 5 rfl) ?_
          refine M_mg0 hC hinX6 hK hw (List.mem_of_getElem? (i := 1) rfl) dX6_fieldItem_204 ?_
          refine lv_iload hx hb dX6_fieldItem_207 (lv_at hl 0 rfl) ?_
          refine lv_iconst (v := (4 : Int32)) hx hb dX6_fieldItem_209 (by decide) ?_
          refine lv_iadd hx hb dX6_fieldItem_210 ?_
          refine lv_iload hx hb dX6_fieldItem_211 (lv_at hl 1 rfl) ?_
          obtain ⟨hi, h⟩ := h
          refine M_ms0 hC hK hw hi dX6_fieldItem_213 (fun S50 H locs eS50 hw => ?_)
          replace h := h S50 eS50
          rw [hQ]
          exact mretv (w := (wM g q)) (u := (S50, J)) hC hr hlocks hK hw ⟨rfl, h⟩ dX6_fieldItem_214
      refine lv_if_eq (tgt := 75) hx hb dX6_fieldItem_65 (by decide) (fun c56 => ?_) (fun c56 => ?_)
      · replace h := h.1 c56
        refine lv_iconst (v := (0 : Int32)) hx hb dX6_fieldItem_75 (by decide) ?_
        exact join22 (0 : Int32) S12 _ _ _ h hw (lv_sub hl [1, 0] rfl)
      · replace h := h.2 c56
        refine lv_aload_n hx hb dX6_fieldItem_68 rfl (lv_at hl 1 rfl) ?_
        refine mcalli (w1 := (wM g q)) (va_runV (As := []) (rest := []) hC (kX6_cells l g  q H.size S12 J  _ h) (cwV 0 hts gX6_fieldItem_X6_cells rfl rfl rfl (by decide +kernel) ⟨Nat.le_of_ble_eq_true rfl, Nat.le_of_ble_eq_true rfl⟩) (mpreV E0_ok hK hE hA hw (Sub1.refl _) 0 rfl rfl) rfl rfl hl.1 rfl (lv_room (Nat.le_of_ble_eq_true rfl)) dX6_fieldItem_69 ⟨Nat.zero_le _, Nat.zero_le _⟩) hA hw (Sub1.refl _) (fun _ => Sub.whole rfl) (fun r52 u53 H locs h hw => ?_)
        obtain ⟨S54, J55⟩ := u53
        obtain ⟨hu, h⟩ := h
        replace hu : J = J55 := hu.symm
        subst hu
        refine lv_goto (tgt := 76) hx hb dX6_fieldItem_72 (by decide) ?_
        exact join22 r52 S54 _ _ _ h hw (lv_sub hl [1, 0] rfl)
    refine lv_if_eq (tgt := 47) hx hb dX6_fieldItem_37 (by decide) (fun c61 => ?_) (fun c61 => ?_)
    · replace h := h.1 c61
      refine lv_iconst (v := (0 : Int32)) hx hb dX6_fieldItem_47 (by decide) ?_
      exact join15 (0 : Int32) S7 _ _ _ h hw (lv_sub hl [0] rfl)
    · replace h := h.2 c61
      refine lv_aload_n hx hb dX6_fieldItem_40 rfl (lv_at hl 0 rfl) ?_
      refine mcalli (w1 := (wM g q)) (va_runV (As := []) (rest := []) hC (kX6_cells l g  q H.size S7 J  _ h) (cwV 0 hts gX6_fieldItem_X6_cells rfl rfl rfl (by decide +kernel) ⟨Nat.le_of_ble_eq_true rfl, Nat.le_of_ble_eq_true rfl⟩) (mpreV E0_ok hK hE hA hw (Sub1.refl _) 0 rfl rfl) rfl rfl hl.1 rfl (lv_room (Nat.le_of_ble_eq_true rfl)) dX6_fieldItem_41 ⟨Nat.zero_le _, Nat.zero_le _⟩) hA hw (Sub1.refl _) (fun _ => Sub.whole rfl) (fun r57 u58 H locs h hw => ?_)
      obtain ⟨S59, J60⟩ := u58
      obtain ⟨hu, h⟩ := h
      replace hu : J = J60 := hu.symm
      subst hu
      refine lv_goto (tgt := 48) hx hb dX6_fieldItem_44 (by decide) ?_
      exact join15 r57 S59 _ _ _ h hw (lv_sub hl [0] rfl)
  refine lv_icmp_ge (tgt := 16) hx hb dX6_fieldItem_9 (by decide) (fun c62 => ?_) (fun c62 => ?_)
  · replace h := h.1 c62
    refine lv_iconst (v := (0 : Int32)) hx hb dX6_fieldItem_16 (by decide) ?_
    exact join4 (0 : Int32) _ _ _ h hw (lv_sub hl [0] rfl)
  · replace h := h.2 c62
    refine lv_iconst (v := (1 : Int32)) hx hb dX6_fieldItem_12 (by decide) ?_
    refine lv_goto (tgt := 17) hx hb dX6_fieldItem_13 (by decide) ?_
    exact join4 (1 : Int32) _ _ _ h hw (lv_sub hl [0] rfl)
def wX6_numberHere (S : Bun) (J : Lon)  (post : Int32 → Prop) : Prop :=
  ∀ x1 : Int32, x1 = S 0 25 → wloop (σ := Int32 × Int32) (fun K4 z => match z with | (x2, x3) => (((S 0 26) ≤ x3 → (((S 0 28) = 0 → wX6_byteAt S J (S 0 25) (fun r10 => wX6_isDigit r10 (fun r12 => ((r12 = 0 → post (-1 : Int32)) ∧ (¬ (r12 = 0) → post x2))))) ∧ (¬ ((S 0 28) = 0) → post (-1 : Int32)))) ∧ (¬ ((S 0 26) ≤ x3) → ((x2 ≤ (999 : Int32) → vp_in x3 120 ∧ ∀ x16 : Int32, x16 = (((10 : Int32) * x2) + (S 24 x3.toNatClampNeg)) - (48 : Int32) → ∀ x17 : Int32, x17 = x3 + (1 : Int32) → K4 (x16, x17)) ∧ (¬ (x2 ≤ (999 : Int32)) → ∀ x19 : Int32, x19 = x3 + (1 : Int32) → K4 (x2, x19)))))) ((0 : Int32), x1)
set_option maxRecDepth 100000 in
set_option maxHeartbeats 4000000 in
theorem kX6_numberHere (l : Launch) (g : Gl)  (q : Nat → Nat) (sz : Nat) (S : Bun) (J : Lon)  (post : Int32 → Prop) (h : wX6_numberHere S J  post) : Met l yX6_numberHere wsX6_numberHere (rmm 2 45) (wPc g E0 ((wM g q) (S, J)) sz [.ref (q 0)]) (va_Qi (fun (r : Int32) (u : Bun × Lon) => u = (S, J) ∧ post r) (wB g (wM g q) (va_A ((wM g q) (S, J)) sz)) (va_A ((wM g q) (S, J)) sz)) 0 0 (va_A ((wM g q) (S, J)) sz) := by
  refine mstart (Qf := fun A => va_Qi (fun (r : Int32) (u : Bun × Lon) => u = (S, J) ∧ post r) (wB g (wM g q) A) A) (by decide) rfl (Nat.le_of_ble_eq_true rfl) ?_
  intro p e s m args below meth c A Q H locs ls hC hr hlocks hname hQ hA hK hE hw hl
  have hC : CallFix p m c cX6_numberHere 3 s args wsX6_numberHere RX6 := hC
  obtain ⟨hx, hb, -, hown, hts⟩ := id hC
  have hl : lv_has ls 3 [(0, .ref (q 0))] := hl
  rw [wX6_numberHere] at h
  have hinX6 : ∀ w ∈ wsX60, w ∈ wsX6_numberHere := fun w hw9 => List.mem_cons_of_mem _ (List.mem_append_right _ hw9)
  refine lv_iconst (v := (0 : Int32)) hx hb dX6_numberHere_0 (by decide) ?_
  refine lv_istore_n (lv' := [(1, .int (0 : Int32)), (0, .ref (q 0))]) hx hb dX6_numberHere_1 rfl hl (by decide) rfl (fun ls hl => ?_)
  refine lv_aload_n hx hb dX6_numberHere_2 rfl (lv_at hl 1 rfl) ?_
  refine M_mg25 hC hinX6 hK hw (List.mem_of_getElem? (i := 1) rfl) dX6_numberHere_3 ?_
  refine lv_topi (fun x1 ex1 => ?_)
  replace h := h x1 ex1
  refine lv_istore_n (lv' := [(2, .int x1), (1, .int (0 : Int32)), (0, .ref (q 0))]) hx hb dX6_numberHere_6 rfl hl (by decide) rfl (fun ls hl => ?_)
  refine h (fun z => match z with | (x2, x3) => ∀ (H : Heap) (locs : List Loc) (ls : Array Slot), Wd g.1 A s.heap ((wM g q) (S, J)) H locs → lv_has ls 3 [(0, .ref (q 0)), (1, .int x2), (2, .int x3)] → W p l e (rmm 2 45) s m args below meth c H locs 0 0 Q (F0 m 7 ls [])) ?_ _ _ _ hw (lv_sub hl [2, 1, 0] rfl)
  clear h hw hl
  rintro ⟨x2, x3⟩ h H locs ls hw hl
  refine lv_iload_n hx hb dX6_numberHere_7 rfl (lv_at hl 2 rfl) ?_
  refine lv_aload_n hx hb dX6_numberHere_8 rfl (lv_at hl 0 rfl) ?_
  refine M_mg26 hC hinX6 hK hw (List.mem_of_getElem? (i := 2) rfl) dX6_numberHere_9 ?_
  refine lv_icmp_ge (tgt := 47) hx hb dX6_numberHere_12 (by decide) (fun c22 => ?_) (fun c22 => ?_)
  · replace h := h.1 c22
    refine lv_aload_n hx hb dX6_numberHere_47 rfl (lv_at hl 0 rfl) ?_
    refine M_mg28 hC hinX6 hK hw (List.mem_of_getElem? (i := 4) rfl) dX6_numberHere_48 ?_
    refine lv_if_ne (tgt := 72) hx hb dX6_numberHere_51 (by decide) (fun c15 => ?_) (fun c15 => ?_)
    · replace h := h.2 c15
      refine lv_iconst (v := (-1 : Int32)) hx hb dX6_numberHere_72 (by decide) ?_
      rw [hQ]
      exact mreti (w := (wM g q)) (u := (S, J)) hC hr hlocks hK hw ⟨rfl, h⟩ dX6_numberHere_73
    · replace h := h.1 c15
      refine lv_aload_n hx hb dX6_numberHere_54 rfl (lv_at hl 0 rfl) ?_
      refine lv_aload_n hx hb dX6_numberHere_55 rfl (lv_at hl 0 rfl) ?_
      refine M_mg25 hC hinX6 hK hw (List.mem_of_getElem? (i := 1) rfl) dX6_numberHere_56 ?_
      refine mcalli (w1 := (wM g q)) (va_runV (As := [.int (S 0 25)]) (rest := []) hC (kX6_byteAt l g  q H.size S J (S 0 25) _ h) (cwV 1 hts gX6_numberHere_X6_byteAt rfl rfl rfl (by decide +kernel) ⟨Nat.le_of_ble_eq_true rfl, Nat.le_of_ble_eq_true rfl⟩) (mpreV E0_ok hK hE hA hw (Sub1.refl _) 0 rfl rfl) rfl rfl hl.1 rfl (lv_room (Nat.le_of_ble_eq_true rfl)) dX6_numberHere_59 ⟨Nat.zero_le _, Nat.zero_le _⟩) hA hw (Sub1.refl _) (fun _ => Sub.whole rfl) (fun r10 u11 H locs h hw => ?_)
      obtain ⟨hu, h⟩ := h
      replace hu := hu.symm
      subst hu
      refine mcalli (w1 := (fun _ => (wM g q) (S, J))) (wc := fun _ : Unit => ([] : va_W)) (u := ()) (va_runS (As := [.int r10]) (rest := []) hC (kX6_isDigit l g  H.size r10 _ h) (va_cwS 1 hts gX6_numberHere_X6_isDigit rfl rfl rfl (by decide +kernel) ⟨Nat.le_of_ble_eq_true rfl, Nat.le_of_ble_eq_true rfl⟩) (mpre E0_ok hK hE hA hw (Sub1.nil _)) rfl rfl hl.1 rfl (lv_room (Nat.le_of_ble_eq_true rfl)) dX6_numberHere_62 ⟨Nat.zero_le _, Nat.zero_le _⟩) hA hw (Sub1.nil _) (fun _ => Sub.nil _) (fun r12 u13 H locs h hw => ?_)
      obtain ⟨_, h⟩ := h
      refine lv_if_eq (tgt := 72) hx hb dX6_numberHere_65 (by decide) (fun c14 => ?_) (fun c14 => ?_)
      · replace h := h.1 c14
        refine lv_iconst (v := (-1 : Int32)) hx hb dX6_numberHere_72 (by decide) ?_
        rw [hQ]
        exact mreti (w := (wM g q)) (u := (S, J)) hC hr hlocks hK hw ⟨rfl, h⟩ dX6_numberHere_73
      · replace h := h.2 c14
        refine lv_iload_n hx hb dX6_numberHere_68 rfl (lv_at hl 1 rfl) ?_
        refine lv_goto (tgt := 73) hx hb dX6_numberHere_69 (by decide) ?_
        rw [hQ]
        exact mreti (w := (wM g q)) (u := (S, J)) hC hr hlocks hK hw ⟨rfl, h⟩ dX6_numberHere_73
  · replace h := h.2 c22
    refine lv_iload_n hx hb dX6_numberHere_15 rfl (lv_at hl 1 rfl) ?_
    refine lv_sipush (v := (999 : Int32)) hx hb dX6_numberHere_16 (by decide) ?_
    refine lv_icmp_le (tgt := 26) hx hb dX6_numberHere_19 (by decide) (fun c21 => ?_) (fun c21 => ?_)
    · replace h := h.1 c21
      refine lv_bipush (v := (10 : Int32)) hx hb dX6_numberHere_26 (by decide) ?_
      refine lv_iload_n hx hb dX6_numberHere_28 rfl (lv_at hl 1 rfl) ?_
      refine lv_imul hx hb dX6_numberHere_29 ?_
      refine lv_aload_n hx hb dX6_numberHere_30 rfl (lv_at hl 0 rfl) ?_
      refine M_mg23 hC hinX6 hK hw (List.mem_of_getElem? (i := 3) rfl) dX6_numberHere_31 ?_
      refine lv_iload_n hx hb dX6_numberHere_34 rfl (lv_at hl 2 rfl) ?_
      obtain ⟨hi, h⟩ := h
      refine M_ml23 hC hK hw hi dX6_numberHere_35 ?_
      refine lv_iadd hx hb dX6_numberHere_36 ?_
      refine lv_bipush (v := (48 : Int32)) hx hb dX6_numberHere_37 (by decide) ?_
      refine lv_isub hx hb dX6_numberHere_39 ?_
      refine lv_topi (fun x16 ex16 => ?_)
      replace h := h x16 ex16
      refine lv_istore_n (lv' := [(1, .int x16), (0, .ref (q 0)), (2, .int x3)]) hx hb dX6_numberHere_40 rfl hl (by decide) rfl (fun ls hl => ?_)
      obtain ⟨x17, ex17⟩ : ∃ y : Int32, y = x3 + (1 : Int32) := ⟨_, rfl⟩
      refine lv_iinc (v := x17) (lv' := [(2, .int x17), (1, .int x16), (0, .ref (q 0))]) hx hb dX6_numberHere_41 hl (k := 2) rfl (by rw [ex17]; rfl) (by decide) rfl (fun ls hl => ?_)
      replace h := h x17 ex17
      refine lv_goto (tgt := 7) hx hb dX6_numberHere_44 (by decide) ?_
      exact h _ _ _ hw (lv_sub hl [2, 1, 0] rfl)
    · replace h := h.2 c21
      refine lv_iload_n hx hb dX6_numberHere_22 rfl (lv_at hl 1 rfl) ?_
      refine lv_goto (tgt := 40) hx hb dX6_numberHere_23 (by decide) ?_
      refine lv_istore_n (lv' := [(1, .int x2), (0, .ref (q 0)), (2, .int x3)]) hx hb dX6_numberHere_40 rfl hl (by decide) rfl (fun ls hl => ?_)
      obtain ⟨x19, ex19⟩ : ∃ y : Int32, y = x3 + (1 : Int32) := ⟨_, rfl⟩
      refine lv_iinc (v := x19) (lv' := [(2, .int x19), (1, .int x2), (0, .ref (q 0))]) hx hb dX6_numberHere_41 hl (k := 2) rfl (by rw [ex19]; rfl) (by decide) rfl (fun ls hl => ?_)
      replace h := h x19 ex19
      refine lv_goto (tgt := 7) hx hb dX6_numberHere_44 (by decide) ?_
      exact h _ _ _ hw (lv_sub hl [2, 1, 0] rfl)
def wX6_item (S : Bun) (J : Lon)  (post : Bun → Prop) : Prop :=
  wX6_kindHere S J  (fun r1 => ((r1 < 0 → wX6_isWord S J (102 : Int32) (105 : Int32) (101 : Int32) (108 : Int32) (100 : Int32) (0 : Int32) (0 : Int32) (fun r3 => ((r3 = 0 → wX6_isWord S J (106 : Int32) (111 : Int32) (105 : Int32) (110 : Int32) (0 : Int32) (0 : Int32) (0 : Int32) (fun r5 => wX6_needs S J r5 (fun S9 => vp_in (0 : Int32) 56 ∧ wX6_number S9 J (0 : Int32) ((S9 1 (0 : Int32).toNatClampNeg) - (1 : Int32)) (fun S13 => ∀ x15 : Int32, x15 = S13 0 27 → wX6_numberHere S13 J  (fun r16 => wX6_isField S13 J r16 (fun r18 => wjoin (σ := Int32) (fun y20 => wX6_needs S13 J y20 (fun S26 => (((S26 0 28) = 0 → vp_in ((38 : Int32) + x15) 56 ∧ vp_in ((38 : Int32) + x15) 56 ∧ ∀ S28 : Bun, S28 = up S26 1 ((38 : Int32) + x15).toNatClampNeg ((S26 1 ((38 : Int32) + x15).toNatClampNeg) ||| ((1 : Int32) <<< (r16 &&& 31))) → post S28) ∧ (¬ ((S26 0 28) = 0) → post S26)))) (fun J21 => ((r18 = 0 → J21 (0 : Int32)) ∧ (¬ (r18 = 0) → ((r16 = x15 → J21 (0 : Int32)) ∧ (¬ (r16 = x15) → J21 (1 : Int32)))))))))))) ∧ (¬ (r3 = 0) → wX6_fieldItem S J  (fun S34 => post S34))))) ∧ (¬ (r1 < 0) → vp_in (1 : Int32) 56 ∧ wjoin (σ := Int32) (fun y37 => wX6_needs S J y37 (fun S43 => wX6_isWord S43 J (112 : Int32) (97 : Int32) (99 : Int32) (101 : Int32) (0 : Int32) (0 : Int32) (0 : Int32) (fun r45 => wjoin (σ := Int32 × Bun) (fun z => match z with | (x47, S48) => (((S48 0 28) = 0 → wX6_newTeam S48 J r1 x47 (fun r52 S54 => post S54)) ∧ (¬ ((S48 0 28) = 0) → post S48))) (fun J49 => ((r45 = 0 → J49 ((1 : Int32), S43)) ∧ (¬ (r45 = 0) → wX6_needs S43 J (1 : Int32) (fun S59 => wX6_number S59 J (1 : Int32) (9 : Int32) (fun S63 => ∀ x65 : Int32, x65 = S63 0 27 → J49 (x65, S63))))))))) (fun J38 => (((6 : Int32) ≤ (S 1 (1 : Int32).toNatClampNeg) → J38 (0 : Int32)) ∧ (¬ ((6 : Int32) ≤ (S 1 (1 : Int32).toNatClampNeg)) → J38 (1 : Int32)))))))
set_option maxRecDepth 100000 in
set_option maxHeartbeats 4000000 in
theorem kX6_item (l : Launch) (g : Gl)  (q : Nat → Nat) (sz : Nat) (S : Bun) (J : Lon)  (post : Bun → Prop) (h : wX6_item S J  post) : Met l yX6_item wsX6_item (rmm 7 162) (wPc g E0 ((wM g q) (S, J)) sz [.ref (q 0)]) (va_Qv (fun (u : Bun × Lon) => u.2 = J ∧ post u.1) (wB g (wM g q) (va_A ((wM g q) (S, J)) sz)) (va_A ((wM g q) (S, J)) sz)) 0 0 (va_A ((wM g q) (S, J)) sz) := by
  refine mstart (Qf := fun A => va_Qv (fun (u : Bun × Lon) => u.2 = J ∧ post u.1) (wB g (wM g q) A) A) (by decide) rfl (Nat.le_of_ble_eq_true rfl) ?_
  intro p e s m args below meth c A Q H locs ls hC hr hlocks hname hQ hA hK hE hw hl
  have hC : CallFix p m c cX6_item 4 s args wsX6_item RX6 := hC
  obtain ⟨hx, hb, -, hown, hts⟩ := id hC
  have hl : lv_has ls 4 [(0, .ref (q 0))] := hl
  rw [wX6_item] at h
  have hinX6 : ∀ w ∈ wsX60, w ∈ wsX6_item := fun w hw9 => List.mem_cons_of_mem _ (List.mem_append_right _ hw9)
  refine lv_aload_n hx hb dX6_item_0 rfl (lv_at hl 0 rfl) ?_
  refine mcalli (w1 := (wM g q)) (va_runV (As := []) (rest := []) hC (kX6_kindHere l g  q H.size S J  _ h) (cwV 0 hts gX6_item_X6_kindHere rfl rfl rfl (by decide +kernel) ⟨Nat.le_of_ble_eq_true rfl, Nat.le_of_ble_eq_true rfl⟩) (mpreV E0_ok hK hE hA hw (Sub1.refl _) 0 rfl rfl) rfl rfl hl.1 rfl (lv_room (Nat.le_of_ble_eq_true rfl)) dX6_item_1 ⟨Nat.zero_le _, Nat.zero_le _⟩) hA hw (Sub1.refl _) (fun _ => Sub.whole rfl) (fun r1 u2 H locs h hw => ?_)
  obtain ⟨hu, h⟩ := h
  replace hu := hu.symm
  subst hu
  refine lv_istore_n (lv' := [(1, .int r1), (0, .ref (q 0))]) hx hb dX6_item_4 rfl hl (by decide) rfl (fun ls hl => ?_)
  refine lv_iload_n hx hb dX6_item_5 rfl (lv_at hl 0 rfl) ?_
  refine lv_if_lt (tgt := 83) hx hb dX6_item_6 (by decide) (fun c68 => ?_) (fun c68 => ?_)
  · replace h := h.1 c68
    refine lv_aload_n hx hb dX6_item_83 rfl (lv_at hl 1 rfl) ?_
    refine lv_bipush (v := (102 : Int32)) hx hb dX6_item_84 (by decide) ?_
    refine lv_bipush (v := (105 : Int32)) hx hb dX6_item_86 (by decide) ?_
    refine lv_bipush (v := (101 : Int32)) hx hb dX6_item_88 (by decide) ?_
    refine lv_bipush (v := (108 : Int32)) hx hb dX6_item_90 (by decide) ?_
    refine lv_bipush (v := (100 : Int32)) hx hb dX6_item_92 (by decide) ?_
    refine lv_iconst (v := (0 : Int32)) hx hb dX6_item_94 (by decide) ?_
    refine lv_iconst (v := (0 : Int32)) hx hb dX6_item_95 (by decide) ?_
    refine mcalli (w1 := (wM g q)) (va_runV (As := [.int (102 : Int32), .int (105 : Int32), .int (101 : Int32), .int (108 : Int32), .int (100 : Int32), .int (0 : Int32), .int (0 : Int32)]) (rest := []) hC (kX6_isWord l g  q H.size S J (102 : Int32) (105 : Int32) (101 : Int32) (108 : Int32) (100 : Int32) (0 : Int32) (0 : Int32) _ h) (cwV 7 hts gX6_item_X6_isWord rfl rfl rfl (by decide +kernel) ⟨Nat.le_of_ble_eq_true rfl, Nat.le_of_ble_eq_true rfl⟩) (mpreV E0_ok hK hE hA hw (Sub1.refl _) 0 rfl rfl) rfl rfl hl.1 rfl (lv_room (Nat.le_of_ble_eq_true rfl)) dX6_item_96 ⟨Nat.zero_le _, Nat.zero_le _⟩) hA hw (Sub1.refl _) (fun _ => Sub.whole rfl) (fun r3 u4 H locs h hw => ?_)
    obtain ⟨hu, h⟩ := h
    replace hu := hu.symm
    subst hu
    refine lv_if_eq (tgt := 109) hx hb dX6_item_99 (by decide) (fun c36 => ?_) (fun c36 => ?_)
    · replace h := h.1 c36
      refine lv_aload_n hx hb dX6_item_109 rfl (lv_at hl 1 rfl) ?_
      refine lv_aload_n hx hb dX6_item_110 rfl (lv_at hl 1 rfl) ?_
      refine lv_bipush (v := (106 : Int32)) hx hb dX6_item_111 (by decide) ?_
      refine lv_bipush (v := (111 : Int32)) hx hb dX6_item_113 (by decide) ?_
      refine lv_bipush (v := (105 : Int32)) hx hb dX6_item_115 (by decide) ?_
      refine lv_bipush (v := (110 : Int32)) hx hb dX6_item_117 (by decide) ?_
      refine lv_iconst (v := (0 : Int32)) hx hb dX6_item_119 (by decide) ?_
      refine lv_iconst (v := (0 : Int32)) hx hb dX6_item_120 (by decide) ?_
      refine lv_iconst (v := (0 : Int32)) hx hb dX6_item_121 (by decide) ?_
      refine mcalli (w1 := (wM g q)) (va_runV (As := [.int (106 : Int32), .int (111 : Int32), .int (105 : Int32), .int (110 : Int32), .int (0 : Int32), .int (0 : Int32), .int (0 : Int32)]) (rest := [.ref (q 0)]) hC (kX6_isWord l g  q H.size S J (106 : Int32) (111 : Int32) (105 : Int32) (110 : Int32) (0 : Int32) (0 : Int32) (0 : Int32) _ h) (cwV 7 hts gX6_item_X6_isWord rfl rfl rfl (by decide +kernel) ⟨Nat.le_of_ble_eq_true rfl, Nat.le_of_ble_eq_true rfl⟩) (mpreV E0_ok hK hE hA hw (Sub1.refl _) 0 rfl rfl) rfl rfl hl.1 rfl (lv_room (Nat.le_of_ble_eq_true rfl)) dX6_item_122 ⟨Nat.zero_le _, Nat.zero_le _⟩) hA hw (Sub1.refl _) (fun _ => Sub.whole rfl) (fun r5 u6 H locs h hw => ?_)
      obtain ⟨hu, h⟩ := h
      replace hu := hu.symm
      subst hu
      refine mcallv (w1 := (wM g q)) (va_runV (As := [.int r5]) (rest := []) hC (kX6_needs l g  q H.size S J r5 _ h) (cwV 1 hts gX6_item_X6_needs rfl rfl rfl (by decide +kernel) ⟨Nat.le_of_ble_eq_true rfl, Nat.le_of_ble_eq_true rfl⟩) (mpreV E0_ok hK hE hA hw (Sub1.refl _) 0 rfl rfl) rfl rfl hl.1 rfl (lv_room (Nat.le_of_ble_eq_true rfl)) dX6_item_125 ⟨Nat.zero_le _, Nat.zero_le _⟩) hA hw (Sub1.refl _) (fun _ => Sub.whole rfl) (fun u8 H locs h hw => ?_)
      obtain ⟨S9, J10⟩ := u8
      obtain ⟨hu, h⟩ := h
      replace hu : J = J10 := hu.symm
      subst hu
      refine lv_aload_n hx hb dX6_item_128 rfl (lv_at hl 1 rfl) ?_
      refine lv_iconst (v := (0 : Int32)) hx hb dX6_item_129 (by decide) ?_
      refine lv_aload_n hx hb dX6_item_130 rfl (lv_at hl 1 rfl) ?_
      refine M_mg0 hC hinX6 hK hw (List.mem_of_getElem? (i := 1) rfl) dX6_item_131 ?_
      refine lv_iconst (v := (0 : Int32)) hx hb dX6_item_134 (by decide) ?_
      obtain ⟨hi, h⟩ := h
      refine M_ml0 hC hK hw hi dX6_item_135 ?_
      refine lv_iconst (v := (1 : Int32)) hx hb dX6_item_136 (by decide) ?_
      refine lv_isub hx hb dX6_item_137 ?_
      refine mcallv (w1 := (wM g q)) (va_runV (As := [.int (0 : Int32), .int ((S9 1 (0 : Int32).toNatClampNeg) - (1 : Int32))]) (rest := []) hC (kX6_number l g  q H.size S9 J (0 : Int32) ((S9 1 (0 : Int32).toNatClampNeg) - (1 : Int32)) _ h) (cwV 2 hts gX6_item_X6_number rfl rfl rfl (by decide +kernel) ⟨Nat.le_of_ble_eq_true rfl, Nat.le_of_ble_eq_true rfl⟩) (mpreV E0_ok hK hE hA hw (Sub1.refl _) 0 rfl rfl) rfl rfl hl.1 rfl (lv_room (Nat.le_of_ble_eq_true rfl)) dX6_item_138 ⟨Nat.zero_le _, Nat.zero_le _⟩) hA hw (Sub1.refl _) (fun _ => Sub.whole rfl) (fun u12 H locs h hw => ?_)
      obtain ⟨S13, J14⟩ := u12
      obtain ⟨hu, h⟩ := h
      replace hu : J = J14 := hu.symm
      subst hu
      refine lv_aload_n hx hb dX6_item_141 rfl (lv_at hl 1 rfl) ?_
      refine M_mg27 hC hinX6 hK hw (List.mem_of_getElem? (i := 2) rfl) dX6_item_142 ?_
      refine lv_topi (fun x15 ex15 => ?_)
      replace h := h x15 ex15
      refine lv_istore_n (lv' := [(2, .int x15), (1, .int r1), (0, .ref (q 0))]) hx hb dX6_item_145 rfl hl (by decide) rfl (fun ls hl => ?_)
      refine lv_aload_n hx hb dX6_item_146 rfl (lv_at hl 2 rfl) ?_
      refine mcalli (w1 := (wM g q)) (va_runV (As := []) (rest := []) hC (kX6_numberHere l g  q H.size S13 J  _ h) (cwV 0 hts gX6_item_X6_numberHere rfl rfl rfl (by decide +kernel) ⟨Nat.le_of_ble_eq_true rfl, Nat.le_of_ble_eq_true rfl⟩) (mpreV E0_ok hK hE hA hw (Sub1.refl _) 0 rfl rfl) rfl rfl hl.1 rfl (lv_room (Nat.le_of_ble_eq_true rfl)) dX6_item_147 ⟨Nat.zero_le _, Nat.zero_le _⟩) hA hw (Sub1.refl _) (fun _ => Sub.whole rfl) (fun r16 u17 H locs h hw => ?_)
      obtain ⟨hu, h⟩ := h
      replace hu := hu.symm
      subst hu
      refine lv_istore_n (lv' := [(3, .int r16), (2, .int x15), (1, .int r1), (0, .ref (q 0))]) hx hb dX6_item_150 rfl hl (by decide) rfl (fun ls hl => ?_)
      refine lv_aload_n hx hb dX6_item_151 rfl (lv_at hl 3 rfl) ?_
      refine lv_aload_n hx hb dX6_item_152 rfl (lv_at hl 3 rfl) ?_
      refine lv_iload_n hx hb dX6_item_153 rfl (lv_at hl 0 rfl) ?_
      refine mcalli (w1 := (wM g q)) (va_runV (As := [.int r16]) (rest := [.ref (q 0)]) hC (kX6_isField l g  q H.size S13 J r16 _ h) (cwV 1 hts gX6_item_X6_isField rfl rfl rfl (by decide +kernel) ⟨Nat.le_of_ble_eq_true rfl, Nat.le_of_ble_eq_true rfl⟩) (mpreV E0_ok hK hE hA hw (Sub1.refl _) 0 rfl rfl) rfl rfl hl.1 rfl (lv_room (Nat.le_of_ble_eq_true rfl)) dX6_item_154 ⟨Nat.zero_le _, Nat.zero_le _⟩) hA hw (Sub1.refl _) (fun _ => Sub.whole rfl) (fun r18 u19 H locs h hw => ?_)
      obtain ⟨hu, h⟩ := h
      replace hu := hu.symm
      subst hu
      obtain ⟨J21, hJ22, h⟩ := h
      have join23 : ∀ (y20 : Int32) (H : Heap) (locs : List Loc) (ls : Array Slot), J21 y20 → Wd g.1 A s.heap ((wM g q) (S13, J)) H locs → lv_has ls 4 [(0, .ref (q 0)), (2, .int x15), (3, .int r16)] → W p l e (rmm 7 162) s m args below meth c H locs 0 0 Q (F0 m 170 ls [.int y20, .ref (q 0)]) := by
        intro y20 H locs ls h hw hl
        replace h := hJ22 y20 h
        refine mcallv (w1 := (wM g q)) (va_runV (As := [.int y20]) (rest := []) hC (kX6_needs l g  q H.size S13 J y20 _ h) (cwV 1 hts gX6_item_X6_needs rfl rfl rfl (by decide +kernel) ⟨Nat.le_of_ble_eq_true rfl, Nat.le_of_ble_eq_true rfl⟩) (mpreV E0_ok hK hE hA hw (Sub1.refl _) 0 rfl rfl) rfl rfl hl.1 rfl (lv_room (Nat.le_of_ble_eq_true rfl)) dX6_item_170 ⟨Nat.zero_le _, Nat.zero_le _⟩) hA hw (Sub1.refl _) (fun _ => Sub.whole rfl) (fun u25 H locs h hw => ?_)
        obtain ⟨S26, J27⟩ := u25
        obtain ⟨hu, h⟩ := h
        replace hu : J = J27 := hu.symm
        subst hu
        refine lv_aload_n hx hb dX6_item_173 rfl (lv_at hl 0 rfl) ?_
        refine M_mg28 hC hinX6 hK hw (List.mem_of_getElem? (i := 3) rfl) dX6_item_174 ?_
        refine lv_if_ne (tgt := 195) hx hb dX6_item_177 (by decide) (fun c29 => ?_) (fun c29 => ?_)
        · replace h := h.2 c29
          rw [hQ]
          exact mretv (w := (wM g q)) (u := (S26, J)) hC hr hlocks hK hw ⟨rfl, h⟩ dX6_item_195
        · replace h := h.1 c29
          refine lv_aload_n hx hb dX6_item_180 rfl (lv_at hl 0 rfl) ?_
          refine M_mg0 hC hinX6 hK hw (List.mem_of_getElem? (i := 1) rfl) dX6_item_181 ?_
          refine lv_bipush (v := (38 : Int32)) hx hb dX6_item_184 (by decide) ?_
          refine lv_iload_n hx hb dX6_item_186 rfl (lv_at hl 1 rfl) ?_
          refine lv_iadd hx hb dX6_item_187 ?_
          refine lv_dup2_11 hx hb dX6_item_188 rfl rfl ?_
          obtain ⟨hi, h⟩ := h
          refine M_ml0 hC hK hw hi dX6_item_189 ?_
          refine lv_iconst (v := (1 : Int32)) hx hb dX6_item_190 (by decide) ?_
          refine lv_iload_n hx hb dX6_item_191 rfl (lv_at hl 2 rfl) ?_
          refine lv_ishl hx hb dX6_item_192 ?_
          refine lv_ior hx hb dX6_item_193 ?_
          obtain ⟨hi, h⟩ := h
          refine M_ms0 hC hK hw hi dX6_item_194 (fun S28 H locs eS28 hw => ?_)
          replace h := h S28 eS28
          rw [hQ]
          exact mretv (w := (wM g q)) (u := (S28, J)) hC hr hlocks hK hw ⟨rfl, h⟩ dX6_item_195
      refine lv_if_eq (tgt := 169) hx hb dX6_item_157 (by decide) (fun c31 => ?_) (fun c31 => ?_)
      · replace h := h.1 c31
        refine lv_iconst (v := (0 : Int32)) hx hb dX6_item_169 (by decide) ?_
        exact join23 (0 : Int32) _ _ _ h hw (lv_sub hl [3, 1, 0] rfl)
      · replace h := h.2 c31
        refine lv_iload_n hx hb dX6_item_160 rfl (lv_at hl 0 rfl) ?_
        refine lv_iload_n hx hb dX6_item_161 rfl (lv_at hl 1 rfl) ?_
        refine lv_icmp_eq (tgt := 169) hx hb dX6_item_162 (by decide) (fun c30 => ?_) (fun c30 => ?_)
        · replace h := h.1 c30
          refine lv_iconst (v := (0 : Int32)) hx hb dX6_item_169 (by decide) ?_
          exact join23 (0 : Int32) _ _ _ h hw (lv_sub hl [3, 1, 0] rfl)
        · replace h := h.2 c30
          refine lv_iconst (v := (1 : Int32)) hx hb dX6_item_165 (by decide) ?_
          refine lv_goto (tgt := 170) hx hb dX6_item_166 (by decide) ?_
          exact join23 (1 : Int32) _ _ _ h hw (lv_sub hl [3, 1, 0] rfl)
    · replace h := h.2 c36
      refine lv_aload_n hx hb dX6_item_102 rfl (lv_at hl 1 rfl) ?_
      refine mcallv (w1 := (wM g q)) (va_runV (As := []) (rest := []) hC (kX6_fieldItem l g  q H.size S J  _ h) (cwV 0 hts gX6_item_X6_fieldItem rfl rfl rfl (by decide +kernel) ⟨Nat.le_of_ble_eq_true rfl, Nat.le_of_ble_eq_true rfl⟩) (mpreV E0_ok hK hE hA hw (Sub1.refl _) 0 rfl rfl) rfl rfl hl.1 rfl (lv_room (Nat.le_of_ble_eq_true rfl)) dX6_item_103 ⟨Nat.zero_le _, Nat.zero_le _⟩) hA hw (Sub1.refl _) (fun _ => Sub.whole rfl) (fun u33 H locs h hw => ?_)
      obtain ⟨S34, J35⟩ := u33
      obtain ⟨hu, h⟩ := h
      replace hu : J = J35 := hu.symm
      subst hu
      refine lv_goto (tgt := 195) hx hb dX6_item_106 (by decide) ?_
      rw [hQ]
      exact mretv (w := (wM g q)) (u := (S34, J)) hC hr hlocks hK hw ⟨rfl, h⟩ dX6_item_195
  · replace h := h.2 c68
    refine lv_aload_n hx hb dX6_item_9 rfl (lv_at hl 1 rfl) ?_
    refine lv_aload_n hx hb dX6_item_10 rfl (lv_at hl 1 rfl) ?_
    refine M_mg0 hC hinX6 hK hw (List.mem_of_getElem? (i := 1) rfl) dX6_item_11 ?_
    refine lv_iconst (v := (1 : Int32)) hx hb dX6_item_14 (by decide) ?_
    obtain ⟨hi, h⟩ := h
    refine M_ml0 hC hK hw hi dX6_item_15 ?_
    refine lv_bipush (v := (6 : Int32)) hx hb dX6_item_16 (by decide) ?_
    obtain ⟨J38, hJ39, h⟩ := h
    have join40 : ∀ (y37 : Int32) (H : Heap) (locs : List Loc) (ls : Array Slot), J38 y37 → Wd g.1 A s.heap ((wM g q) (S, J)) H locs → lv_has ls 4 [(0, .ref (q 0)), (1, .int r1)] → W p l e (rmm 7 162) s m args below meth c H locs 0 0 Q (F0 m 26 ls [.int y37, .ref (q 0)]) := by
      intro y37 H locs ls h hw hl
      replace h := hJ39 y37 h
      refine mcallv (w1 := (wM g q)) (va_runV (As := [.int y37]) (rest := []) hC (kX6_needs l g  q H.size S J y37 _ h) (cwV 1 hts gX6_item_X6_needs rfl rfl rfl (by decide +kernel) ⟨Nat.le_of_ble_eq_true rfl, Nat.le_of_ble_eq_true rfl⟩) (mpreV E0_ok hK hE hA hw (Sub1.refl _) 0 rfl rfl) rfl rfl hl.1 rfl (lv_room (Nat.le_of_ble_eq_true rfl)) dX6_item_26 ⟨Nat.zero_le _, Nat.zero_le _⟩) hA hw (Sub1.refl _) (fun _ => Sub.whole rfl) (fun u42 H locs h hw => ?_)
      obtain ⟨S43, J44⟩ := u42
      obtain ⟨hu, h⟩ := h
      replace hu : J = J44 := hu.symm
      subst hu
      refine lv_iconst (v := (1 : Int32)) hx hb dX6_item_29 (by decide) ?_
      refine lv_istore_n (lv' := [(2, .int (1 : Int32)), (0, .ref (q 0)), (1, .int r1)]) hx hb dX6_item_30 rfl hl (by decide) rfl (fun ls hl => ?_)
      refine lv_aload_n hx hb dX6_item_31 rfl (lv_at hl 1 rfl) ?_
      refine lv_bipush (v := (112 : Int32)) hx hb dX6_item_32 (by decide) ?_
      refine lv_bipush (v := (97 : Int32)) hx hb dX6_item_34 (by decide) ?_
      refine lv_bipush (v := (99 : Int32)) hx hb dX6_item_36 (by decide) ?_
      refine lv_bipush (v := (101 : Int32)) hx hb dX6_item_38 (by decide) ?_
      refine lv_iconst (v := (0 : Int32)) hx hb dX6_item_40 (by decide) ?_
      refine lv_iconst (v := (0 : Int32)) hx hb dX6_item_41 (by decide) ?_
      refine lv_iconst (v := (0 : Int32)) hx hb dX6_item_42 (by decide) ?_
      refine mcalli (w1 := (wM g q)) (va_runV (As := [.int (112 : Int32), .int (97 : Int32), .int (99 : Int32), .int (101 : Int32), .int (0 : Int32), .int (0 : Int32), .int (0 : Int32)]) (rest := []) hC (kX6_isWord l g  q H.size S43 J (112 : Int32) (97 : Int32) (99 : Int32) (101 : Int32) (0 : Int32) (0 : Int32) (0 : Int32) _ h) (cwV 7 hts gX6_item_X6_isWord rfl rfl rfl (by decide +kernel) ⟨Nat.le_of_ble_eq_true rfl, Nat.le_of_ble_eq_true rfl⟩) (mpreV E0_ok hK hE hA hw (Sub1.refl _) 0 rfl rfl) rfl rfl hl.1 rfl (lv_room (Nat.le_of_ble_eq_true rfl)) dX6_item_43 ⟨Nat.zero_le _, Nat.zero_le _⟩) hA hw (Sub1.refl _) (fun _ => Sub.whole rfl) (fun r45 u46 H locs h hw => ?_)
      obtain ⟨hu, h⟩ := h
      replace hu := hu.symm
      subst hu
      obtain ⟨J49, hJ50, h⟩ := h
      have join51 : ∀ (x47 : Int32) (S48 : Bun) (H : Heap) (locs : List Loc) (ls : Array Slot), J49 (x47, S48) → Wd g.1 A s.heap ((wM g q) (S48, J)) H locs → lv_has ls 4 [(0, .ref (q 0)), (1, .int r1), (2, .int x47)] → W p l e (rmm 7 162) s m args below meth c H locs 0 0 Q (F0 m 66 ls []) := by
        intro x47 S48 H locs ls h hw hl
        replace h := hJ50 (x47, S48) h
        refine lv_aload_n hx hb dX6_item_66 rfl (lv_at hl 0 rfl) ?_
        refine M_mg28 hC hinX6 hK hw (List.mem_of_getElem? (i := 3) rfl) dX6_item_67 ?_
        refine lv_if_ne (tgt := 80) hx hb dX6_item_70 (by decide) (fun c56 => ?_) (fun c56 => ?_)
        · replace h := h.2 c56
          refine lv_goto (tgt := 195) hx hb dX6_item_80 (by decide) ?_
          rw [hQ]
          exact mretv (w := (wM g q)) (u := (S48, J)) hC hr hlocks hK hw ⟨rfl, h⟩ dX6_item_195
        · replace h := h.1 c56
          refine lv_aload_n hx hb dX6_item_73 rfl (lv_at hl 0 rfl) ?_
          refine lv_iload_n hx hb dX6_item_74 rfl (lv_at hl 1 rfl) ?_
          refine lv_iload_n hx hb dX6_item_75 rfl (lv_at hl 2 rfl) ?_
          refine mcalli (w1 := (wM g q)) (va_runV (As := [.int r1, .int x47]) (rest := []) hC (kX6_newTeam l g  q H.size S48 J r1 x47 _ h) (cwV 2 hts gX6_item_X6_newTeam rfl rfl rfl (by decide +kernel) ⟨Nat.le_of_ble_eq_true rfl, Nat.le_of_ble_eq_true rfl⟩) (mpreV E0_ok hK hE hA hw (Sub1.refl _) 0 rfl rfl) rfl rfl hl.1 rfl (lv_room (Nat.le_of_ble_eq_true rfl)) dX6_item_76 ⟨Nat.zero_le _, Nat.zero_le _⟩) hA hw (Sub1.refl _) (fun _ => Sub.whole rfl) (fun r52 u53 H locs h hw => ?_)
          obtain ⟨S54, J55⟩ := u53
          obtain ⟨hu, h⟩ := h
          replace hu : J = J55 := hu.symm
          subst hu
          refine lv_istore_n (lv' := [(3, .int r52), (0, .ref (q 0)), (1, .int r1), (2, .int x47)]) hx hb dX6_item_79 rfl hl (by decide) rfl (fun ls hl => ?_)
          refine lv_goto (tgt := 195) hx hb dX6_item_80 (by decide) ?_
          rw [hQ]
          exact mretv (w := (wM g q)) (u := (S54, J)) hC hr hlocks hK hw ⟨rfl, h⟩ dX6_item_195
      refine lv_if_eq (tgt := 66) hx hb dX6_item_46 (by decide) (fun c66 => ?_) (fun c66 => ?_)
      · replace h := h.1 c66
        exact join51 (1 : Int32) S43 _ _ _ h hw (lv_sub hl [1, 2, 0] rfl)
      · replace h := h.2 c66
        refine lv_aload_n hx hb dX6_item_49 rfl (lv_at hl 1 rfl) ?_
        refine lv_iconst (v := (1 : Int32)) hx hb dX6_item_50 (by decide) ?_
        refine mcallv (w1 := (wM g q)) (va_runV (As := [.int (1 : Int32)]) (rest := []) hC (kX6_needs l g  q H.size S43 J (1 : Int32) _ h) (cwV 1 hts gX6_item_X6_needs rfl rfl rfl (by decide +kernel) ⟨Nat.le_of_ble_eq_true rfl, Nat.le_of_ble_eq_true rfl⟩) (mpreV E0_ok hK hE hA hw (Sub1.refl _) 0 rfl rfl) rfl rfl hl.1 rfl (lv_room (Nat.le_of_ble_eq_true rfl)) dX6_item_51 ⟨Nat.zero_le _, Nat.zero_le _⟩) hA hw (Sub1.refl _) (fun _ => Sub.whole rfl) (fun u58 H locs h hw => ?_)
        obtain ⟨S59, J60⟩ := u58
        obtain ⟨hu, h⟩ := h
        replace hu : J = J60 := hu.symm
        subst hu
        refine lv_aload_n hx hb dX6_item_54 rfl (lv_at hl 1 rfl) ?_
        refine lv_iconst (v := (1 : Int32)) hx hb dX6_item_55 (by decide) ?_
        refine lv_bipush (v := (9 : Int32)) hx hb dX6_item_56 (by decide) ?_
        refine mcallv (w1 := (wM g q)) (va_runV (As := [.int (1 : Int32), .int (9 : Int32)]) (rest := []) hC (kX6_number l g  q H.size S59 J (1 : Int32) (9 : Int32) _ h) (cwV 2 hts gX6_item_X6_number rfl rfl rfl (by decide +kernel) ⟨Nat.le_of_ble_eq_true rfl, Nat.le_of_ble_eq_true rfl⟩) (mpreV E0_ok hK hE hA hw (Sub1.refl _) 0 rfl rfl) rfl rfl hl.1 rfl (lv_room (Nat.le_of_ble_eq_true rfl)) dX6_item_58 ⟨Nat.zero_le _, Nat.zero_le _⟩) hA hw (Sub1.refl _) (fun _ => Sub.whole rfl) (fun u62 H locs h hw => ?_)
        obtain ⟨S63, J64⟩ := u62
        obtain ⟨hu, h⟩ := h
        replace hu : J = J64 := hu.symm
        subst hu
        refine lv_aload_n hx hb dX6_item_61 rfl (lv_at hl 1 rfl) ?_
        refine M_mg27 hC hinX6 hK hw (List.mem_of_getElem? (i := 2) rfl) dX6_item_62 ?_
        refine lv_topi (fun x65 ex65 => ?_)
        replace h := h x65 ex65
        refine lv_istore_n (lv' := [(2, .int x65), (0, .ref (q 0)), (1, .int r1)]) hx hb dX6_item_65 rfl hl (by decide) rfl (fun ls hl => ?_)
        exact join51 x65 S63 _ _ _ h hw (lv_sub hl [1, 2, 0] rfl)
    refine lv_icmp_ge (tgt := 25) hx hb dX6_item_18 (by decide) (fun c67 => ?_) (fun c67 => ?_)
    · replace h := h.1 c67
      refine lv_iconst (v := (0 : Int32)) hx hb dX6_item_25 (by decide) ?_
      exact join40 (0 : Int32) _ _ _ h hw (lv_sub hl [1, 0] rfl)
    · replace h := h.2 c67
      refine lv_iconst (v := (1 : Int32)) hx hb dX6_item_21 (by decide) ?_
      refine lv_goto (tgt := 26) hx hb dX6_item_22 (by decide) ?_
      exact join40 (1 : Int32) _ _ _ h hw (lv_sub hl [1, 0] rfl)
def wX6_parish (S : Bun) (J : Lon)  (post : Int32 → Bun → Prop) : Prop :=
  wloop (σ := Int32 × Bun) (fun K3 z => match z with | (x1, S2) => (((56 : Int32) ≤ x1 → ∀ S9 : Bun, S9 = up S2 0 26 (0 : Int32) → ∀ S10 : Bun, S10 = up S9 0 28 (0 : Int32) → wX6_token S10 J  (fun S13 => wX6_item S13 J  (fun S17 => wloop (σ := Int32 × Bun) (fun K21 z => match z with | (x19, S20) => wjoin (σ := Unit) (fun _ => ∀ S30 : Bun, S30 = up S20 0 24 (0 : Int32) → (((S30 0 28) = 0 → post x19 S30) ∧ (¬ ((S30 0 28) = 0) → wloop (σ := Int32 × Bun) (fun K33 z => match z with | (x31, S32) => (((56 : Int32) ≤ x31 → post ((-1 : Int32) - (S32 0 25)) S32) ∧ (¬ ((56 : Int32) ≤ x31) → vp_in x31 56 ∧ vp_in x31 56 ∧ ∀ S39 : Bun, S39 = up S32 1 x31.toNatClampNeg (S32 3 x31.toNatClampNeg) → ∀ x40 : Int32, x40 = x31 + (1 : Int32) → K33 (x40, S39)))) ((0 : Int32), S30)))) (fun J27 => (((S20 0 28) = 0 → (((S20 0 24) ≤ (S20 0 25) → J27 ()) ∧ (¬ ((S20 0 24) ≤ (S20 0 25)) → wX6_byteAt S20 J (S20 0 25) (fun r44 => wjoin (σ := Int32) (fun y46 => wX6_needs S20 J y46 (fun S52 => wX6_item S52 J  (fun S56 => ∀ x58 : Int32, x58 = x19 + (1 : Int32) → K21 (x58, S56)))) (fun J47 => ((r44 = (59 : Int32) → J47 (1 : Int32)) ∧ (¬ (r44 = (59 : Int32)) → J47 (0 : Int32)))))))) ∧ (¬ ((S20 0 28) = 0) → J27 ())))) ((1 : Int32), S17)))) ∧ (¬ ((56 : Int32) ≤ x1) → vp_in x1 56 ∧ vp_in x1 56 ∧ ∀ S63 : Bun, S63 = up S2 3 x1.toNatClampNeg (S2 1 x1.toNatClampNeg) → ∀ x64 : Int32, x64 = x1 + (1 : Int32) → K3 (x64, S63)))) ((0 : Int32), S)
set_option maxRecDepth 100000 in
set_option maxHeartbeats 4000000 in
theorem kX6_parish (l : Launch) (g : Gl)  (q : Nat → Nat) (sz : Nat) (S : Bun) (J : Lon)  (post : Int32 → Bun → Prop) (h : wX6_parish S J  post) : Met l yX6_parish wsX6_parish (rmm 8 185) (wPc g E0 ((wM g q) (S, J)) sz [.ref (q 0)]) (va_Qi (fun (r : Int32) (u : Bun × Lon) => u.2 = J ∧ post r u.1) (wB g (wM g q) (va_A ((wM g q) (S, J)) sz)) (va_A ((wM g q) (S, J)) sz)) 0 0 (va_A ((wM g q) (S, J)) sz) := by
  refine mstart (Qf := fun A => va_Qi (fun (r : Int32) (u : Bun × Lon) => u.2 = J ∧ post r u.1) (wB g (wM g q) A) A) (by decide) rfl (Nat.le_of_ble_eq_true rfl) ?_
  intro p e s m args below meth c A Q H locs ls hC hr hlocks hname hQ hA hK hE hw hl
  have hC : CallFix p m c cX6_parish 3 s args wsX6_parish RX6 := hC
  obtain ⟨hx, hb, -, hown, hts⟩ := id hC
  have hl : lv_has ls 3 [(0, .ref (q 0))] := hl
  rw [wX6_parish] at h
  have hinX6 : ∀ w ∈ wsX60, w ∈ wsX6_parish := fun w hw9 => List.mem_cons_of_mem _ (List.mem_append_right _ hw9)
  refine lv_iconst (v := (0 : Int32)) hx hb dX6_parish_0 (by decide) ?_
  refine lv_istore_n (lv' := [(1, .int (0 : Int32)), (0, .ref (q 0))]) hx hb dX6_parish_1 rfl hl (by decide) rfl (fun ls hl => ?_)
  refine h (fun z => match z with | (x1, S2) => ∀ (H : Heap) (locs : List Loc) (ls : Array Slot), Wd g.1 A s.heap ((wM g q) (S2, J)) H locs → lv_has ls 3 [(0, .ref (q 0)), (1, .int x1)] → W p l e (rmm 8 185) s m args below meth c H locs 0 0 Q (F0 m 2 ls [])) ?_ _ _ _ hw (lv_sub hl [1, 0] rfl)
  clear h hw hl
  rintro ⟨x1, S2⟩ h H locs ls hw hl
  refine lv_iload_n hx hb dX6_parish_2 rfl (lv_at hl 1 rfl) ?_
  refine lv_bipush (v := (56 : Int32)) hx hb dX6_parish_3 (by decide) ?_
  refine lv_icmp_ge (tgt := 26) hx hb dX6_parish_5 (by decide) (fun c66 => ?_) (fun c66 => ?_)
  · replace h := h.1 c66
    refine lv_aload_n hx hb dX6_parish_26 rfl (lv_at hl 0 rfl) ?_
    refine lv_iconst (v := (0 : Int32)) hx hb dX6_parish_27 (by decide) ?_
    refine M_mp26 hC hinX6 hK hw (List.mem_of_getElem? (i := 3) rfl) dX6_parish_28 (fun S9 H locs eS9 hw => ?_)
    replace h := h S9 eS9
    refine lv_aload_n hx hb dX6_parish_31 rfl (lv_at hl 0 rfl) ?_
    refine lv_iconst (v := (0 : Int32)) hx hb dX6_parish_32 (by decide) ?_
    refine M_mp28 hC hinX6 hK hw (List.mem_of_getElem? (i := 4) rfl) (Or.inl rfl) dX6_parish_33 (fun S10 H locs eS10 hw => ?_)
    replace h := h S10 eS10
    refine lv_aload_n hx hb dX6_parish_36 rfl (lv_at hl 0 rfl) ?_
    refine mcallv (w1 := (wM g q)) (va_runV (As := []) (rest := []) hC (kX6_token l g  q H.size S10 J  _ h) (cwV 0 hts gX6_parish_X6_token rfl rfl rfl (by decide +kernel) ⟨Nat.le_of_ble_eq_true rfl, Nat.le_of_ble_eq_true rfl⟩) (mpreV E0_ok hK hE hA hw (Sub1.refl _) 0 rfl rfl) rfl rfl hl.1 rfl (lv_room (Nat.le_of_ble_eq_true rfl)) dX6_parish_37 ⟨Nat.zero_le _, Nat.zero_le _⟩) hA hw (Sub1.refl _) (fun _ => Sub.whole rfl) (fun u12 H locs h hw => ?_)
    obtain ⟨S13, J14⟩ := u12
    obtain ⟨hu, h⟩ := h
    replace hu : J = J14 := hu.symm
    subst hu
    refine lv_iconst (v := (1 : Int32)) hx hb dX6_parish_40 (by decide) ?_
    refine lv_istore_n (lv' := [(1, .int (1 : Int32)), (0, .ref (q 0))]) hx hb dX6_parish_41 rfl hl (by decide) rfl (fun ls hl => ?_)
    refine lv_aload_n hx hb dX6_parish_42 rfl (lv_at hl 1 rfl) ?_
    refine mcallv (w1 := (wM g q)) (va_runV (As := []) (rest := []) hC (kX6_item l g  q H.size S13 J  _ h) (cwV 0 hts gX6_parish_X6_item rfl rfl rfl (by decide +kernel) ⟨Nat.le_of_ble_eq_true rfl, Nat.le_of_ble_eq_true rfl⟩) (mpreV E0_ok hK hE hA hw (Sub1.refl _) 0 rfl rfl) rfl rfl hl.1 rfl (lv_room (Nat.le_of_ble_eq_true rfl)) dX6_parish_43 ⟨Nat.zero_le _, Nat.zero_le _⟩) hA hw (Sub1.refl _) (fun _ => Sub.whole rfl) (fun u16 H locs h hw => ?_)
    obtain ⟨S17, J18⟩ := u16
    obtain ⟨hu, h⟩ := h
    replace hu : J = J18 := hu.symm
    subst hu
    refine h (fun z => match z with | (x19, S20) => ∀ (H : Heap) (locs : List Loc) (ls : Array Slot), Wd g.1 A s.heap ((wM g q) (S20, J)) H locs → lv_has ls 3 [(0, .ref (q 0)), (1, .int x19)] → W p l e (rmm 8 185) s m args below meth c H locs 0 0 Q (F0 m 46 ls [])) ?_ _ _ _ hw (lv_sub hl [1, 0] rfl)
    clear h hw hl
    rintro ⟨x19, S20⟩ h H locs ls hw hl
    refine lv_aload_n hx hb dX6_parish_46 rfl (lv_at hl 0 rfl) ?_
    refine M_mg28 hC hinX6 hK hw (List.mem_of_getElem? (i := 4) rfl) dX6_parish_47 ?_
    obtain ⟨J27, hJ28, h⟩ := h
    have join29 : ∀  (H : Heap) (locs : List Loc) (ls : Array Slot), J27 () → Wd g.1 A s.heap ((wM g q) (S20, J)) H locs → lv_has ls 3 [(0, .ref (q 0)), (1, .int x19)] → W p l e (rmm 8 185) s m args below meth c H locs 0 0 Q (F0 m 96 ls []) := by
      intro  H locs ls h hw hl
      replace h := hJ28 () h
      refine lv_aload_n hx hb dX6_parish_96 rfl (lv_at hl 0 rfl) ?_
      refine lv_iconst (v := (0 : Int32)) hx hb dX6_parish_97 (by decide) ?_
      refine M_mp24 hC hinX6 hK hw (List.mem_of_getElem? (i := 6) rfl) dX6_parish_98 (fun S30 H locs eS30 hw => ?_)
      replace h := h S30 eS30
      refine lv_aload_n hx hb dX6_parish_101 rfl (lv_at hl 0 rfl) ?_
      refine M_mg28 hC hinX6 hK hw (List.mem_of_getElem? (i := 4) rfl) dX6_parish_102 ?_
      refine lv_if_eq (tgt := 141) hx hb dX6_parish_105 (by decide) (fun c43 => ?_) (fun c43 => ?_)
      · replace h := h.1 c43
        refine lv_iload_n hx hb dX6_parish_141 rfl (lv_at hl 1 rfl) ?_
        rw [hQ]
        exact mreti (w := (wM g q)) (u := (S30, J)) hC hr hlocks hK hw ⟨rfl, h⟩ dX6_parish_142
      · replace h := h.2 c43
        refine lv_iconst (v := (0 : Int32)) hx hb dX6_parish_108 (by decide) ?_
        refine lv_istore_n (lv' := [(2, .int (0 : Int32)), (0, .ref (q 0)), (1, .int x19)]) hx hb dX6_parish_109 rfl hl (by decide) rfl (fun ls hl => ?_)
        refine h (fun z => match z with | (x31, S32) => ∀ (H : Heap) (locs : List Loc) (ls : Array Slot), Wd g.1 A s.heap ((wM g q) (S32, J)) H locs → lv_has ls 3 [(0, .ref (q 0)), (2, .int x31)] → W p l e (rmm 8 185) s m args below meth c H locs 0 0 Q (F0 m 110 ls [])) ?_ _ _ _ hw (lv_sub hl [1, 0] rfl)
        clear h hw hl
        rintro ⟨x31, S32⟩ h H locs ls hw hl
        refine lv_iload_n hx hb dX6_parish_110 rfl (lv_at hl 1 rfl) ?_
        refine lv_bipush (v := (56 : Int32)) hx hb dX6_parish_111 (by decide) ?_
        refine lv_icmp_ge (tgt := 134) hx hb dX6_parish_113 (by decide) (fun c42 => ?_) (fun c42 => ?_)
        · replace h := h.1 c42
          refine lv_iconst (v := (-1 : Int32)) hx hb dX6_parish_134 (by decide) ?_
          refine lv_aload_n hx hb dX6_parish_135 rfl (lv_at hl 0 rfl) ?_
          refine M_mg25 hC hinX6 hK hw (List.mem_of_getElem? (i := 5) rfl) dX6_parish_136 ?_
          refine lv_isub hx hb dX6_parish_139 ?_
          rw [hQ]
          exact mreti (w := (wM g q)) (u := (S32, J)) hC hr hlocks hK hw ⟨rfl, h⟩ dX6_parish_140
        · replace h := h.2 c42
          refine lv_aload_n hx hb dX6_parish_116 rfl (lv_at hl 0 rfl) ?_
          refine M_mg0 hC hinX6 hK hw (List.mem_of_getElem? (i := 2) rfl) dX6_parish_117 ?_
          refine lv_iload_n hx hb dX6_parish_120 rfl (lv_at hl 1 rfl) ?_
          refine lv_aload_n hx hb dX6_parish_121 rfl (lv_at hl 0 rfl) ?_
          refine M_mg2 hC hinX6 hK hw (List.mem_of_getElem? (i := 1) rfl) dX6_parish_122 ?_
          refine lv_iload_n hx hb dX6_parish_125 rfl (lv_at hl 1 rfl) ?_
          obtain ⟨hi, h⟩ := h
          refine M_ml2 hC hK hw hi dX6_parish_126 ?_
          obtain ⟨hi, h⟩ := h
          refine M_ms0 hC hK hw hi dX6_parish_127 (fun S39 H locs eS39 hw => ?_)
          replace h := h S39 eS39
          obtain ⟨x40, ex40⟩ : ∃ y : Int32, y = x31 + (1 : Int32) := ⟨_, rfl⟩
          refine lv_iinc (v := x40) (lv' := [(2, .int x40), (0, .ref (q 0))]) hx hb dX6_parish_128 hl (k := 1) rfl (by rw [ex40]; rfl) (by decide) rfl (fun ls hl => ?_)
          replace h := h x40 ex40
          refine lv_goto (tgt := 110) hx hb dX6_parish_131 (by decide) ?_
          exact h _ _ _ hw (lv_sub hl [1, 0] rfl)
    refine lv_if_ne (tgt := 96) hx hb dX6_parish_50 (by decide) (fun c62 => ?_) (fun c62 => ?_)
    · replace h := h.2 c62
      exact join29  _ _ _ h hw (lv_sub hl [0, 1] rfl)
    · replace h := h.1 c62
      refine lv_aload_n hx hb dX6_parish_53 rfl (lv_at hl 0 rfl) ?_
      refine M_mg25 hC hinX6 hK hw (List.mem_of_getElem? (i := 5) rfl) dX6_parish_54 ?_
      refine lv_aload_n hx hb dX6_parish_57 rfl (lv_at hl 0 rfl) ?_
      refine M_mg24 hC hinX6 hK hw (List.mem_of_getElem? (i := 6) rfl) dX6_parish_58 ?_
      refine lv_icmp_ge (tgt := 96) hx hb dX6_parish_61 (by decide) (fun c61 => ?_) (fun c61 => ?_)
      · replace h := h.1 c61
        exact join29  _ _ _ h hw (lv_sub hl [0, 1] rfl)
      · replace h := h.2 c61
        refine lv_aload_n hx hb dX6_parish_64 rfl (lv_at hl 0 rfl) ?_
        refine lv_aload_n hx hb dX6_parish_65 rfl (lv_at hl 0 rfl) ?_
        refine lv_aload_n hx hb dX6_parish_66 rfl (lv_at hl 0 rfl) ?_
        refine M_mg25 hC hinX6 hK hw (List.mem_of_getElem? (i := 5) rfl) dX6_parish_67 ?_
        refine mcalli (w1 := (wM g q)) (va_runV (As := [.int (S20 0 25)]) (rest := [.ref (q 0)]) hC (kX6_byteAt l g  q H.size S20 J (S20 0 25) _ h) (cwV 1 hts gX6_parish_X6_byteAt rfl rfl rfl (by decide +kernel) ⟨Nat.le_of_ble_eq_true rfl, Nat.le_of_ble_eq_true rfl⟩) (mpreV E0_ok hK hE hA hw (Sub1.refl _) 0 rfl rfl) rfl rfl hl.1 rfl (lv_room (Nat.le_of_ble_eq_true rfl)) dX6_parish_70 ⟨Nat.zero_le _, Nat.zero_le _⟩) hA hw (Sub1.refl _) (fun _ => Sub.whole rfl) (fun r44 u45 H locs h hw => ?_)
        obtain ⟨hu, h⟩ := h
        replace hu := hu.symm
        subst hu
        refine lv_bipush (v := (59 : Int32)) hx hb dX6_parish_73 (by decide) ?_
        obtain ⟨J47, hJ48, h⟩ := h
        have join49 : ∀ (y46 : Int32) (H : Heap) (locs : List Loc) (ls : Array Slot), J47 y46 → Wd g.1 A s.heap ((wM g q) (S20, J)) H locs → lv_has ls 3 [(0, .ref (q 0)), (1, .int x19)] → W p l e (rmm 8 185) s m args below meth c H locs 0 0 Q (F0 m 83 ls [.int y46, .ref (q 0)]) := by
          intro y46 H locs ls h hw hl
          replace h := hJ48 y46 h
          refine mcallv (w1 := (wM g q)) (va_runV (As := [.int y46]) (rest := []) hC (kX6_needs l g  q H.size S20 J y46 _ h) (cwV 1 hts gX6_parish_X6_needs rfl rfl rfl (by decide +kernel) ⟨Nat.le_of_ble_eq_true rfl, Nat.le_of_ble_eq_true rfl⟩) (mpreV E0_ok hK hE hA hw (Sub1.refl _) 0 rfl rfl) rfl rfl hl.1 rfl (lv_room (Nat.le_of_ble_eq_true rfl)) dX6_parish_83 ⟨Nat.zero_le _, Nat.zero_le _⟩) hA hw (Sub1.refl _) (fun _ => Sub.whole rfl) (fun u51 H locs h hw => ?_)
          obtain ⟨S52, J53⟩ := u51
          obtain ⟨hu, h⟩ := h
          replace hu : J = J53 := hu.symm
          subst hu
          refine lv_aload_n hx hb dX6_parish_86 rfl (lv_at hl 0 rfl) ?_
          refine mcallv (w1 := (wM g q)) (va_runV (As := []) (rest := []) hC (kX6_item l g  q H.size S52 J  _ h) (cwV 0 hts gX6_parish_X6_item rfl rfl rfl (by decide +kernel) ⟨Nat.le_of_ble_eq_true rfl, Nat.le_of_ble_eq_true rfl⟩) (mpreV E0_ok hK hE hA hw (Sub1.refl _) 0 rfl rfl) rfl rfl hl.1 rfl (lv_room (Nat.le_of_ble_eq_true rfl)) dX6_parish_87 ⟨Nat.zero_le _, Nat.zero_le _⟩) hA hw (Sub1.refl _) (fun _ => Sub.whole rfl) (fun u55 H locs h hw => ?_)
          obtain ⟨S56, J57⟩ := u55
          obtain ⟨hu, h⟩ := h
          replace hu : J = J57 := hu.symm
          subst hu
          obtain ⟨x58, ex58⟩ : ∃ y : Int32, y = x19 + (1 : Int32) := ⟨_, rfl⟩
          refine lv_iinc (v := x58) (lv' := [(1, .int x58), (0, .ref (q 0))]) hx hb dX6_parish_90 hl (k := 1) rfl (by rw [ex58]; rfl) (by decide) rfl (fun ls hl => ?_)
          replace h := h x58 ex58
          refine lv_goto (tgt := 46) hx hb dX6_parish_93 (by decide) ?_
          exact h _ _ _ hw (lv_sub hl [1, 0] rfl)
        refine lv_icmp_ne (tgt := 82) hx hb dX6_parish_75 (by decide) (fun c60 => ?_) (fun c60 => ?_)
        · replace h := h.2 c60
          refine lv_iconst (v := (0 : Int32)) hx hb dX6_parish_82 (by decide) ?_
          exact join49 (0 : Int32) _ _ _ h hw (lv_sub hl [0, 1] rfl)
        · replace h := h.1 c60
          refine lv_iconst (v := (1 : Int32)) hx hb dX6_parish_78 (by decide) ?_
          refine lv_goto (tgt := 83) hx hb dX6_parish_79 (by decide) ?_
          exact join49 (1 : Int32) _ _ _ h hw (lv_sub hl [0, 1] rfl)
  · replace h := h.2 c66
    refine lv_aload_n hx hb dX6_parish_8 rfl (lv_at hl 0 rfl) ?_
    refine M_mg2 hC hinX6 hK hw (List.mem_of_getElem? (i := 1) rfl) dX6_parish_9 ?_
    refine lv_iload_n hx hb dX6_parish_12 rfl (lv_at hl 1 rfl) ?_
    refine lv_aload_n hx hb dX6_parish_13 rfl (lv_at hl 0 rfl) ?_
    refine M_mg0 hC hinX6 hK hw (List.mem_of_getElem? (i := 2) rfl) dX6_parish_14 ?_
    refine lv_iload_n hx hb dX6_parish_17 rfl (lv_at hl 1 rfl) ?_
    obtain ⟨hi, h⟩ := h
    refine M_ml0 hC hK hw hi dX6_parish_18 ?_
    obtain ⟨hi, h⟩ := h
    refine M_ms2 hC hK hw hi dX6_parish_19 (fun S63 H locs eS63 hw => ?_)
    replace h := h S63 eS63
    obtain ⟨x64, ex64⟩ : ∃ y : Int32, y = x1 + (1 : Int32) := ⟨_, rfl⟩
    refine lv_iinc (v := x64) (lv' := [(1, .int x64), (0, .ref (q 0))]) hx hb dX6_parish_20 hl (k := 1) rfl (by rw [ex64]; rfl) (by decide) rfl (fun ls hl => ?_)
    replace h := h x64 ex64
    refine lv_goto (tgt := 2) hx hb dX6_parish_23 (by decide) ?_
    exact h _ _ _ hw (lv_sub hl [1, 0] rfl)
def wX6_isOne  (a1 : Int32) (post : Int32 → Prop) : Prop :=
  wX6_in a1.toInt64 (0 : Int64) (3 : Int64) (fun r1 => zb r1 ∧ post r1)
set_option maxRecDepth 100000 in
set_option maxHeartbeats 4000000 in
theorem kX6_isOne (l : Launch) (g : Gl)   (sz : Nat)  (a1 : Int32) (post : Int32 → Prop) (h : wX6_isOne  a1 post) : Met l yX6_isOne wsX6_isOne (rmm 1 25) (wPc g E0 (([] : va_W)) sz [.int a1]) (va_Qi (fun (r : Int32) (u : Unit) => u = () ∧ post r) (wB g (fun _ : Unit => ([] : va_W)) (va_A (([] : va_W)) sz)) (va_A (([] : va_W)) sz)) 0 0 (va_A (([] : va_W)) sz) := by
  refine mstart (Qf := fun A => va_Qi (fun (r : Int32) (u : Unit) => u = () ∧ post r) (wB g (fun _ : Unit => ([] : va_W)) A) A) (by decide) rfl (Nat.le_of_ble_eq_true rfl) ?_
  intro p e s m args below meth c A Q H locs ls hC hr hlocks hname hQ hA hK hE hw hl
  have hC : CallFix p m c cX6_isOne 1 s args wsX6_isOne RX6 := hC
  obtain ⟨hx, hb, -, hown, hts⟩ := id hC
  have hl : lv_has ls 1 [(0, .int a1)] := hl
  rw [wX6_isOne] at h
  refine lv_iload_n hx hb dX6_isOne_0 rfl (lv_at hl 0 rfl) ?_
  refine lv_i2l (v := a1.toInt64) hx hb dX6_isOne_1 rfl ?_
  refine lv_lconst (v := (0 : Int64)) hx hb dX6_isOne_2 (by decide) ?_
  refine lv_ldc2 (v := (3 : Int64)) hx hb hown (hts (.constantLong RX6 144 (3)) (List.mem_of_getElem? (i := 1) rfl)) dX6_isOne_3 ?_
  refine mcalli (w1 := (fun _ => ([] : va_W))) (wc := fun _ : Unit => ([] : va_W)) (u := ()) (va_runS (As := [.long a1.toInt64, .long (0 : Int64), .long (3 : Int64)]) (rest := []) hC (kX6_in l g  H.size a1.toInt64 (0 : Int64) (3 : Int64) _ h) (va_cwS 3 hts gX6_isOne_X6_in rfl rfl rfl (by decide +kernel) ⟨Nat.le_of_ble_eq_true rfl, Nat.le_of_ble_eq_true rfl⟩) (mpre E0_ok hK hE hA hw (Sub1.nil _)) rfl rfl hl.1 rfl (lv_room (Nat.le_of_ble_eq_true rfl)) dX6_isOne_6 ⟨Nat.zero_le _, Nat.zero_le _⟩) hA hw (Sub1.nil _) (fun _ => Sub.nil _) (fun r1 u2 H locs h hw => ?_)
  obtain ⟨_, h⟩ := h
  obtain ⟨hz, h⟩ := h
  rw [hQ]
  exact mretz (w := (fun _ : Unit => ([] : va_W))) (u := ()) hC hr hlocks hK hw hz ⟨rfl, h⟩ dX6_isOne_9
def wX6_sheet (S : Bun) (J : Lon) (a1 : Int32) (a2 : Int32) (a3 : Int32) (post : Int32 → Bun → Lon → Prop) : Prop :=
  wX6_isOne a1 (fun r1 => wjoin (σ := Unit) (fun _ => wX6_finds S J (-1000000001 : Int32) (fun r6 S8 => post r6 S8 J)) (fun J3 => ((r1 = 0 → J3 ()) ∧ (¬ (r1 = 0) → wjoin (σ := Unit) (fun _ => ((0 ≤ a3 → ((a3 ≤ (40 : Int32) → vp_in a1 4 ∧ ∀ S13 : Bun, S13 = up S 30 a1.toNatClampNeg a2 → wjoin (σ := Int32) (fun y14 => vp_in a1 4 ∧ ∀ S18 : Bun, S18 = up S13 31 a1.toNatClampNeg y14 → wloop (σ := Int32 × Lon) (fun K21 z => match z with | (x19, J20) => (((40 : Int32) ≤ x19 → vp_in a1 4 ∧ post (S18 31 a1.toNatClampNeg) S18 J20) ∧ (¬ ((40 : Int32) ≤ x19) → vp_in (((40 : Int32) * a1) + x19) 160 ∧ ∀ J27 : Lon, J27 = upL J20 32 (((40 : Int32) * a1) + x19).toNatClampNeg (0 : Int64) → ∀ x28 : Int32, x28 = x19 + (1 : Int32) → K21 (x28, J27)))) ((0 : Int32), J)) (fun J15 => ((a2 = 0 → J15 (0 : Int32)) ∧ (¬ (a2 = 0) → J15 a3)))) ∧ (¬ (a3 ≤ (40 : Int32)) → wX6_finds S J (-1000000001 : Int32) (fun r32 S34 => post r32 S34 J)))) ∧ (¬ (0 ≤ a3) → wX6_finds S J (-1000000007 : Int32) (fun r37 S39 => post r37 S39 J)))) (fun J10 => ((a2 = 0 → J10 ()) ∧ (¬ (a2 = 0) → ((a2 = (8 : Int32) → J10 ()) ∧ (¬ (a2 = (8 : Int32)) → ((a2 = (16 : Int32) → J10 ()) ∧ (¬ (a2 = (16 : Int32)) → ((a2 = (64 : Int32) → J10 ()) ∧ (¬ (a2 = (64 : Int32)) → J3 ())))))))))))))
set_option maxRecDepth 100000 in
set_option maxHeartbeats 4000000 in
theorem kX6_sheet (l : Launch) (g : Gl)  (q : Nat → Nat) (sz : Nat) (S : Bun) (J : Lon) (a1 : Int32) (a2 : Int32) (a3 : Int32) (post : Int32 → Bun → Lon → Prop) (h : wX6_sheet S J a1 a2 a3 post) : Met l yX6_sheet wsX6_sheet (rmm 2 45) (wPc g E0 ((wM g q) (S, J)) sz [.ref (q 0), .int a1, .int a2, .int a3]) (va_Qi (fun (r : Int32) (u : Bun × Lon) => post r u.1 u.2) (wB g (wM g q) (va_A ((wM g q) (S, J)) sz)) (va_A ((wM g q) (S, J)) sz)) 0 0 (va_A ((wM g q) (S, J)) sz) := by
  refine mstart (Qf := fun A => va_Qi (fun (r : Int32) (u : Bun × Lon) => post r u.1 u.2) (wB g (wM g q) A) A) (by decide) rfl (Nat.le_of_ble_eq_true rfl) ?_
  intro p e s m args below meth c A Q H locs ls hC hr hlocks hname hQ hA hK hE hw hl
  have hC : CallFix p m c cX6_sheet 5 s args wsX6_sheet RX6 := hC
  obtain ⟨hx, hb, -, hown, hts⟩ := id hC
  have hl : lv_has ls 5 [(0, .ref (q 0)), (1, .int a1), (2, .int a2), (3, .int a3)] := hl
  rw [wX6_sheet] at h
  have hinX6 : ∀ w ∈ wsX60, w ∈ wsX6_sheet := fun w hw9 => List.mem_cons_of_mem _ (List.mem_append_right _ hw9)
  refine lv_iload_n hx hb dX6_sheet_0 rfl (lv_at hl 1 rfl) ?_
  refine mcalli (w1 := (fun _ => (wM g q) (S, J))) (wc := fun _ : Unit => ([] : va_W)) (u := ()) (va_runS (As := [.int a1]) (rest := []) hC (kX6_isOne l g  H.size a1 _ h) (va_cwS 1 hts gX6_sheet_X6_isOne rfl rfl rfl (by decide +kernel) ⟨Nat.le_of_ble_eq_true rfl, Nat.le_of_ble_eq_true rfl⟩) (mpre E0_ok hK hE hA hw (Sub1.nil _)) rfl rfl hl.1 rfl (lv_room (Nat.le_of_ble_eq_true rfl)) dX6_sheet_1 ⟨Nat.zero_le _, Nat.zero_le _⟩) hA hw (Sub1.nil _) (fun _ => Sub.nil _) (fun r1 u2 H locs h hw => ?_)
  obtain ⟨_, h⟩ := h
  obtain ⟨J3, hJ4, h⟩ := h
  have join5 : ∀  (H : Heap) (locs : List Loc) (ls : Array Slot), J3 () → Wd g.1 A s.heap ((wM g q) (S, J)) H locs → lv_has ls 5 [(0, .ref (q 0))] → W p l e (rmm 2 45) s m args below meth c H locs 0 0 Q (F0 m 29 ls []) := by
    intro  H locs ls h hw hl
    replace h := hJ4 () h
    refine lv_aload_n hx hb dX6_sheet_29 rfl (lv_at hl 0 rfl) ?_
    refine lv_ldc (v := (-1000000001 : Int32)) hx hb hown (hts (.constant RX6 68 (-1000000001)) (List.mem_of_getElem? (i := 1) rfl)) dX6_sheet_30 ?_
    refine mcalli (w1 := (wM g q)) (va_runV (As := [.int (-1000000001 : Int32)]) (rest := []) hC (kX6_finds l g  q H.size S J (-1000000001 : Int32) _ h) (cwV 1 hts gX6_sheet_X6_finds rfl rfl rfl (by decide +kernel) ⟨Nat.le_of_ble_eq_true rfl, Nat.le_of_ble_eq_true rfl⟩) (mpreV E0_ok hK hE hA hw (Sub1.refl _) 0 rfl rfl) rfl rfl hl.1 rfl (lv_room (Nat.le_of_ble_eq_true rfl)) dX6_sheet_32 ⟨Nat.zero_le _, Nat.zero_le _⟩) hA hw (Sub1.refl _) (fun _ => Sub.whole rfl) (fun r6 u7 H locs h hw => ?_)
    obtain ⟨S8, J9⟩ := u7
    obtain ⟨hu, h⟩ := h
    replace hu : J = J9 := hu.symm
    subst hu
    rw [hQ]
    exact mreti (w := (wM g q)) (u := (S8, J)) hC hr hlocks hK hw h dX6_sheet_35
  refine lv_if_eq (tgt := 29) hx hb dX6_sheet_4 (by decide) (fun c46 => ?_) (fun c46 => ?_)
  · replace h := h.1 c46
    exact join5  _ _ _ h hw (lv_sub hl [0] rfl)
  · replace h := h.2 c46
    refine lv_iload_n hx hb dX6_sheet_7 rfl (lv_at hl 2 rfl) ?_
    obtain ⟨J10, hJ11, h⟩ := h
    have join12 : ∀  (H : Heap) (locs : List Loc) (ls : Array Slot), J10 () → Wd g.1 A s.heap ((wM g q) (S, J)) H locs → lv_has ls 5 [(0, .ref (q 0)), (1, .int a1), (2, .int a2), (3, .int a3)] → W p l e (rmm 2 45) s m args below meth c H locs 0 0 Q (F0 m 36 ls []) := by
      intro  H locs ls h hw hl
      replace h := hJ11 () h
      refine lv_iload_n hx hb dX6_sheet_36 rfl (lv_at hl 3 rfl) ?_
      refine lv_if_ge (tgt := 48) hx hb dX6_sheet_37 (by decide) (fun c41 => ?_) (fun c41 => ?_)
      · replace h := h.1 c41
        refine lv_iload_n hx hb dX6_sheet_48 rfl (lv_at hl 3 rfl) ?_
        refine lv_bipush (v := (40 : Int32)) hx hb dX6_sheet_49 (by decide) ?_
        refine lv_icmp_le (tgt := 61) hx hb dX6_sheet_51 (by decide) (fun c36 => ?_) (fun c36 => ?_)
        · replace h := h.1 c36
          refine lv_aload_n hx hb dX6_sheet_61 rfl (lv_at hl 0 rfl) ?_
          refine M_mg29 hC hinX6 hK hw (List.mem_of_getElem? (i := 3) rfl) dX6_sheet_62 ?_
          refine lv_iload_n hx hb dX6_sheet_65 rfl (lv_at hl 1 rfl) ?_
          refine lv_iload_n hx hb dX6_sheet_66 rfl (lv_at hl 2 rfl) ?_
          obtain ⟨hi, h⟩ := h
          refine M_ms29 hC hK hw hi dX6_sheet_67 (fun S13 H locs eS13 hw => ?_)
          replace h := h S13 eS13
          refine lv_aload_n hx hb dX6_sheet_68 rfl (lv_at hl 0 rfl) ?_
          refine M_mg30 hC hinX6 hK hw (List.mem_of_getElem? (i := 4) rfl) dX6_sheet_69 ?_
          refine lv_iload_n hx hb dX6_sheet_72 rfl (lv_at hl 1 rfl) ?_
          refine lv_iload_n hx hb dX6_sheet_73 rfl (lv_at hl 2 rfl) ?_
          obtain ⟨J15, hJ16, h⟩ := h
          have join17 : ∀ (y14 : Int32) (H : Heap) (locs : List Loc) (ls : Array Slot), J15 y14 → Wd g.1 A s.heap ((wM g q) (S13, J)) H locs → lv_has ls 5 [(0, .ref (q 0)), (1, .int a1)] → W p l e (rmm 2 45) s m args below meth c H locs 0 0 Q (F0 m 82 ls [.int y14, .int a1, .ref (q 31)]) := by
            intro y14 H locs ls h hw hl
            replace h := hJ16 y14 h
            obtain ⟨hi, h⟩ := h
            refine M_ms30 hC hK hw hi dX6_sheet_82 (fun S18 H locs eS18 hw => ?_)
            replace h := h S18 eS18
            refine lv_iconst (v := (0 : Int32)) hx hb dX6_sheet_83 (by decide) ?_
            refine lv_istore (lv' := [(4, .int (0 : Int32)), (0, .ref (q 0)), (1, .int a1)]) hx hb dX6_sheet_84 hl (by decide) rfl (fun ls hl => ?_)
            refine h (fun z => match z with | (x19, J20) => ∀ (H : Heap) (locs : List Loc) (ls : Array Slot), Wd g.1 A s.heap ((wM g q) (S18, J20)) H locs → lv_has ls 5 [(0, .ref (q 0)), (1, .int a1), (4, .int x19)] → W p l e (rmm 2 45) s m args below meth c H locs 0 0 Q (F0 m 86 ls [])) ?_ _ _ _ hw (lv_sub hl [1, 2, 0] rfl)
            clear h hw hl
            rintro ⟨x19, J20⟩ h H locs ls hw hl
            refine lv_iload hx hb dX6_sheet_86 (lv_at hl 2 rfl) ?_
            refine lv_bipush (v := (40 : Int32)) hx hb dX6_sheet_88 (by decide) ?_
            refine lv_icmp_ge (tgt := 112) hx hb dX6_sheet_90 (by decide) (fun c30 => ?_) (fun c30 => ?_)
            · replace h := h.1 c30
              refine lv_aload_n hx hb dX6_sheet_112 rfl (lv_at hl 0 rfl) ?_
              refine M_mg30 hC hinX6 hK hw (List.mem_of_getElem? (i := 4) rfl) dX6_sheet_113 ?_
              refine lv_iload_n hx hb dX6_sheet_116 rfl (lv_at hl 1 rfl) ?_
              obtain ⟨hi, h⟩ := h
              refine M_ml30 hC hK hw hi dX6_sheet_117 ?_
              rw [hQ]
              exact mreti (w := (wM g q)) (u := (S18, J20)) hC hr hlocks hK hw h dX6_sheet_118
            · replace h := h.2 c30
              refine lv_aload_n hx hb dX6_sheet_93 rfl (lv_at hl 0 rfl) ?_
              refine M_mg31 hC hinX6 hK hw (List.mem_of_getElem? (i := 5) rfl) dX6_sheet_94 ?_
              refine lv_bipush (v := (40 : Int32)) hx hb dX6_sheet_97 (by decide) ?_
              refine lv_iload_n hx hb dX6_sheet_99 rfl (lv_at hl 1 rfl) ?_
              refine lv_imul hx hb dX6_sheet_100 ?_
              refine lv_iload hx hb dX6_sheet_101 (lv_at hl 2 rfl) ?_
              refine lv_iadd hx hb dX6_sheet_103 ?_
              refine lv_lconst (v := (0 : Int64)) hx hb dX6_sheet_104 (by decide) ?_
              obtain ⟨hi, h⟩ := h
              refine M_ms31 hC hK hw hi dX6_sheet_105 (fun J27 H locs eJ27 hw => ?_)
              replace h := h J27 eJ27
              obtain ⟨x28, ex28⟩ : ∃ y : Int32, y = x19 + (1 : Int32) := ⟨_, rfl⟩
              refine lv_iinc (v := x28) (lv' := [(4, .int x28), (0, .ref (q 0)), (1, .int a1)]) hx hb dX6_sheet_106 hl (k := 2) rfl (by rw [ex28]; rfl) (by decide) rfl (fun ls hl => ?_)
              replace h := h x28 ex28
              refine lv_goto (tgt := 86) hx hb dX6_sheet_109 (by decide) ?_
              exact h _ _ _ hw (lv_sub hl [1, 2, 0] rfl)
          refine lv_if_ne (tgt := 81) hx hb dX6_sheet_74 (by decide) (fun c31 => ?_) (fun c31 => ?_)
          · replace h := h.2 c31
            refine lv_iload_n hx hb dX6_sheet_81 rfl (lv_at hl 3 rfl) ?_
            exact join17 a3 _ _ _ h hw (lv_sub hl [0, 1] rfl)
          · replace h := h.1 c31
            refine lv_iconst (v := (0 : Int32)) hx hb dX6_sheet_77 (by decide) ?_
            refine lv_goto (tgt := 82) hx hb dX6_sheet_78 (by decide) ?_
            exact join17 (0 : Int32) _ _ _ h hw (lv_sub hl [0, 1] rfl)
        · replace h := h.2 c36
          refine lv_aload_n hx hb dX6_sheet_54 rfl (lv_at hl 0 rfl) ?_
          refine lv_ldc (v := (-1000000001 : Int32)) hx hb hown (hts (.constant RX6 68 (-1000000001)) (List.mem_of_getElem? (i := 1) rfl)) dX6_sheet_55 ?_
          refine mcalli (w1 := (wM g q)) (va_runV (As := [.int (-1000000001 : Int32)]) (rest := []) hC (kX6_finds l g  q H.size S J (-1000000001 : Int32) _ h) (cwV 1 hts gX6_sheet_X6_finds rfl rfl rfl (by decide +kernel) ⟨Nat.le_of_ble_eq_true rfl, Nat.le_of_ble_eq_true rfl⟩) (mpreV E0_ok hK hE hA hw (Sub1.refl _) 0 rfl rfl) rfl rfl hl.1 rfl (lv_room (Nat.le_of_ble_eq_true rfl)) dX6_sheet_57 ⟨Nat.zero_le _, Nat.zero_le _⟩) hA hw (Sub1.refl _) (fun _ => Sub.whole rfl) (fun r32 u33 H locs h hw => ?_)
          obtain ⟨S34, J35⟩ := u33
          obtain ⟨hu, h⟩ := h
          replace hu : J = J35 := hu.symm
          subst hu
          rw [hQ]
          exact mreti (w := (wM g q)) (u := (S34, J)) hC hr hlocks hK hw h dX6_sheet_60
      · replace h := h.2 c41
        refine lv_aload_n hx hb dX6_sheet_40 rfl (lv_at hl 0 rfl) ?_
        refine lv_ldcw (v := (-1000000007 : Int32)) hx hb hown (hts (.constant RX6 293 (-1000000007)) (List.mem_of_getElem? (i := 2) rfl)) dX6_sheet_41 ?_
        refine mcalli (w1 := (wM g q)) (va_runV (As := [.int (-1000000007 : Int32)]) (rest := []) hC (kX6_finds l g  q H.size S J (-1000000007 : Int32) _ h) (cwV 1 hts gX6_sheet_X6_finds rfl rfl rfl (by decide +kernel) ⟨Nat.le_of_ble_eq_true rfl, Nat.le_of_ble_eq_true rfl⟩) (mpreV E0_ok hK hE hA hw (Sub1.refl _) 0 rfl rfl) rfl rfl hl.1 rfl (lv_room (Nat.le_of_ble_eq_true rfl)) dX6_sheet_44 ⟨Nat.zero_le _, Nat.zero_le _⟩) hA hw (Sub1.refl _) (fun _ => Sub.whole rfl) (fun r37 u38 H locs h hw => ?_)
        obtain ⟨S39, J40⟩ := u38
        obtain ⟨hu, h⟩ := h
        replace hu : J = J40 := hu.symm
        subst hu
        rw [hQ]
        exact mreti (w := (wM g q)) (u := (S39, J)) hC hr hlocks hK hw h dX6_sheet_47
    refine lv_if_eq (tgt := 36) hx hb dX6_sheet_8 (by decide) (fun c45 => ?_) (fun c45 => ?_)
    · replace h := h.1 c45
      exact join12  _ _ _ h hw (lv_sub hl [0, 1, 2, 3] rfl)
    · replace h := h.2 c45
      refine lv_iload_n hx hb dX6_sheet_11 rfl (lv_at hl 2 rfl) ?_
      refine lv_bipush (v := (8 : Int32)) hx hb dX6_sheet_12 (by decide) ?_
      refine lv_icmp_eq (tgt := 36) hx hb dX6_sheet_14 (by decide) (fun c44 => ?_) (fun c44 => ?_)
      · replace h := h.1 c44
        exact join12  _ _ _ h hw (lv_sub hl [0, 1, 2, 3] rfl)
      · replace h := h.2 c44
        refine lv_iload_n hx hb dX6_sheet_17 rfl (lv_at hl 2 rfl) ?_
        refine lv_bipush (v := (16 : Int32)) hx hb dX6_sheet_18 (by decide) ?_
        refine lv_icmp_eq (tgt := 36) hx hb dX6_sheet_20 (by decide) (fun c43 => ?_) (fun c43 => ?_)
        · replace h := h.1 c43
          exact join12  _ _ _ h hw (lv_sub hl [0, 1, 2, 3] rfl)
        · replace h := h.2 c43
          refine lv_iload_n hx hb dX6_sheet_23 rfl (lv_at hl 2 rfl) ?_
          refine lv_bipush (v := (64 : Int32)) hx hb dX6_sheet_24 (by decide) ?_
          refine lv_icmp_eq (tgt := 36) hx hb dX6_sheet_26 (by decide) (fun c42 => ?_) (fun c42 => ?_)
          · replace h := h.1 c42
            exact join12  _ _ _ h hw (lv_sub hl [0, 1, 2, 3] rfl)
          · replace h := h.2 c42
            exact join5  _ _ _ h hw (lv_sub hl [0] rfl)
def wX6_narrowed  (a1 : Int32) (a2 : Int64) (post : Int64 → Prop) : Prop :=
  ((a1 = (8 : Int32) → post a2.toInt32.toInt8.toInt32.toInt64) ∧ (¬ (a1 = (8 : Int32)) → ((a1 = (16 : Int32) → post a2.toInt32.toInt16.toInt32.toInt64) ∧ (¬ (a1 = (16 : Int32)) → post a2))))
set_option maxRecDepth 100000 in
set_option maxHeartbeats 4000000 in
theorem kX6_narrowed (l : Launch) (g : Gl)   (sz : Nat)  (a1 : Int32) (a2 : Int64) (post : Int64 → Prop) (h : wX6_narrowed  a1 a2 post) : Met l yX6_narrowed wsX6_narrowed (rmm 0 0) (wPc g E0 (([] : va_W)) sz [.int a1, .long a2]) (va_Ql (fun (r : Int64) (u : Unit) => u = () ∧ post r) (wB g (fun _ : Unit => ([] : va_W)) (va_A (([] : va_W)) sz)) (va_A (([] : va_W)) sz)) 0 0 (va_A (([] : va_W)) sz) := by
  refine mstart (Qf := fun A => va_Ql (fun (r : Int64) (u : Unit) => u = () ∧ post r) (wB g (fun _ : Unit => ([] : va_W)) A) A) (by decide) rfl (Nat.le_of_ble_eq_true rfl) ?_
  intro p e s m args below meth c A Q H locs ls hC hr hlocks hname hQ hA hK hE hw hl
  have hC : CallFix p m c cX6_narrowed 3 s args wsX6_narrowed RX6 := hC
  obtain ⟨hx, hb, -, hown, hts⟩ := id hC
  have hl : lv_has ls 3 [(0, .int a1), (1, .long a2)] := hl
  rw [wX6_narrowed] at h
  refine lv_iload_n hx hb dX6_narrowed_0 rfl (lv_at hl 0 rfl) ?_
  refine lv_bipush (v := (8 : Int32)) hx hb dX6_narrowed_1 (by decide) ?_
  refine lv_icmp_ne (tgt := 13) hx hb dX6_narrowed_3 (by decide) (fun c2 => ?_) (fun c2 => ?_)
  · replace h := h.2 c2
    refine lv_iload_n hx hb dX6_narrowed_13 rfl (lv_at hl 0 rfl) ?_
    refine lv_bipush (v := (16 : Int32)) hx hb dX6_narrowed_14 (by decide) ?_
    refine lv_icmp_ne (tgt := 26) hx hb dX6_narrowed_16 (by decide) (fun c1 => ?_) (fun c1 => ?_)
    · replace h := h.2 c1
      refine lv_lload_n hx hb dX6_narrowed_26 rfl (lv_at hl 1 rfl) ?_
      rw [hQ]
      exact mretl (w := (fun _ : Unit => ([] : va_W))) (u := ()) hC hr hlocks hK hw ⟨rfl, h⟩ dX6_narrowed_27
    · replace h := h.1 c1
      refine lv_lload_n hx hb dX6_narrowed_19 rfl (lv_at hl 1 rfl) ?_
      refine lv_l2i (v := a2.toInt32) hx hb dX6_narrowed_20 rfl ?_
      refine lv_i2s (v := a2.toInt32.toInt16.toInt32) hx hb dX6_narrowed_21 rfl ?_
      refine lv_i2l (v := a2.toInt32.toInt16.toInt32.toInt64) hx hb dX6_narrowed_22 rfl ?_
      refine lv_goto (tgt := 27) hx hb dX6_narrowed_23 (by decide) ?_
      rw [hQ]
      exact mretl (w := (fun _ : Unit => ([] : va_W))) (u := ()) hC hr hlocks hK hw ⟨rfl, h⟩ dX6_narrowed_27
  · replace h := h.1 c2
    refine lv_lload_n hx hb dX6_narrowed_6 rfl (lv_at hl 1 rfl) ?_
    refine lv_l2i (v := a2.toInt32) hx hb dX6_narrowed_7 rfl ?_
    refine lv_i2b (v := a2.toInt32.toInt8.toInt32) hx hb dX6_narrowed_8 rfl ?_
    refine lv_i2l (v := a2.toInt32.toInt8.toInt32.toInt64) hx hb dX6_narrowed_9 rfl ?_
    refine lv_goto (tgt := 27) hx hb dX6_narrowed_10 (by decide) ?_
    rw [hQ]
    exact mretl (w := (fun _ : Unit => ([] : va_W))) (u := ()) hC hr hlocks hK hw ⟨rfl, h⟩ dX6_narrowed_27
def wX6_wrong (S : Bun) (J : Lon) (a1 : Int32) (post : Int32 → Prop) : Prop :=
  wX6_isOne a1 (fun r1 => ((r1 = 0 → post (-1000000001 : Int32)) ∧ (¬ (r1 = 0) → vp_in a1 4 ∧ (((S 30 a1.toNatClampNeg) = 0 → post (-1000000006 : Int32)) ∧ (¬ ((S 30 a1.toNatClampNeg) = 0) → post (0 : Int32))))))
set_option maxRecDepth 100000 in
set_option maxHeartbeats 4000000 in
theorem kX6_wrong (l : Launch) (g : Gl)  (q : Nat → Nat) (sz : Nat) (S : Bun) (J : Lon) (a1 : Int32) (post : Int32 → Prop) (h : wX6_wrong S J a1 post) : Met l yX6_wrong wsX6_wrong (rmm 2 45) (wPc g E0 ((wM g q) (S, J)) sz [.ref (q 0), .int a1]) (va_Qi (fun (r : Int32) (u : Bun × Lon) => u = (S, J) ∧ post r) (wB g (wM g q) (va_A ((wM g q) (S, J)) sz)) (va_A ((wM g q) (S, J)) sz)) 0 0 (va_A ((wM g q) (S, J)) sz) := by
  refine mstart (Qf := fun A => va_Qi (fun (r : Int32) (u : Bun × Lon) => u = (S, J) ∧ post r) (wB g (wM g q) A) A) (by decide) rfl (Nat.le_of_ble_eq_true rfl) ?_
  intro p e s m args below meth c A Q H locs ls hC hr hlocks hname hQ hA hK hE hw hl
  have hC : CallFix p m c cX6_wrong 2 s args wsX6_wrong RX6 := hC
  obtain ⟨hx, hb, -, hown, hts⟩ := id hC
  have hl : lv_has ls 2 [(0, .ref (q 0)), (1, .int a1)] := hl
  rw [wX6_wrong] at h
  have hinX6 : ∀ w ∈ wsX60, w ∈ wsX6_wrong := fun w hw9 => List.mem_cons_of_mem _ (List.mem_append_right _ hw9)
  refine lv_iload_n hx hb dX6_wrong_0 rfl (lv_at hl 1 rfl) ?_
  refine mcalli (w1 := (fun _ => (wM g q) (S, J))) (wc := fun _ : Unit => ([] : va_W)) (u := ()) (va_runS (As := [.int a1]) (rest := []) hC (kX6_isOne l g  H.size a1 _ h) (va_cwS 1 hts gX6_wrong_X6_isOne rfl rfl rfl (by decide +kernel) ⟨Nat.le_of_ble_eq_true rfl, Nat.le_of_ble_eq_true rfl⟩) (mpre E0_ok hK hE hA hw (Sub1.nil _)) rfl rfl hl.1 rfl (lv_room (Nat.le_of_ble_eq_true rfl)) dX6_wrong_1 ⟨Nat.zero_le _, Nat.zero_le _⟩) hA hw (Sub1.nil _) (fun _ => Sub.nil _) (fun r1 u2 H locs h hw => ?_)
  obtain ⟨_, h⟩ := h
  refine lv_if_ne (tgt := 12) hx hb dX6_wrong_4 (by decide) (fun c4 => ?_) (fun c4 => ?_)
  · replace h := h.2 c4
    refine lv_aload_n hx hb dX6_wrong_12 rfl (lv_at hl 0 rfl) ?_
    refine M_mg29 hC hinX6 hK hw (List.mem_of_getElem? (i := 2) rfl) dX6_wrong_13 ?_
    refine lv_iload_n hx hb dX6_wrong_16 rfl (lv_at hl 1 rfl) ?_
    obtain ⟨hi, h⟩ := h
    refine M_ml29 hC hK hw hi dX6_wrong_17 ?_
    refine lv_if_ne (tgt := 27) hx hb dX6_wrong_18 (by decide) (fun c3 => ?_) (fun c3 => ?_)
    · replace h := h.2 c3
      refine lv_iconst (v := (0 : Int32)) hx hb dX6_wrong_27 (by decide) ?_
      rw [hQ]
      exact mreti (w := (wM g q)) (u := (S, J)) hC hr hlocks hK hw ⟨rfl, h⟩ dX6_wrong_28
    · replace h := h.1 c3
      refine lv_ldcw (v := (-1000000006 : Int32)) hx hb hown (hts (.constant RX6 294 (-1000000006)) (List.mem_of_getElem? (i := 3) rfl)) dX6_wrong_21 ?_
      refine lv_goto (tgt := 28) hx hb dX6_wrong_24 (by decide) ?_
      rw [hQ]
      exact mreti (w := (wM g q)) (u := (S, J)) hC hr hlocks hK hw ⟨rfl, h⟩ dX6_wrong_28
  · replace h := h.1 c4
    refine lv_ldc (v := (-1000000001 : Int32)) hx hb hown (hts (.constant RX6 68 (-1000000001)) (List.mem_of_getElem? (i := 1) rfl)) dX6_wrong_7 ?_
    refine lv_goto (tgt := 28) hx hb dX6_wrong_9 (by decide) ?_
    rw [hQ]
    exact mreti (w := (wM g q)) (u := (S, J)) hC hr hlocks hK hw ⟨rfl, h⟩ dX6_wrong_28
def wX6_write (S : Bun) (J : Lon) (a1 : Int32) (a2 : Int32) (a3 : Int64) (post : Int64 → Bun → Lon → Prop) : Prop :=
  wX6_wrong S J a1 (fun r1 => ((r1 = 0 → vp_in a1 4 ∧ wX6_in a2.toInt64 (0 : Int64) (((S 31 a1.toNatClampNeg) - (1 : Int32)).toInt64) (fun r3 => ((r3 = 0 → wX6_finds S J (-1000000001 : Int32) (fun r9 S11 => post r9.toInt64 S11 J)) ∧ (¬ (r3 = 0) → vp_in (((40 : Int32) * a1) + a2) 160 ∧ ∀ x5 : Int64, x5 = J 32 (((40 : Int32) * a1) + a2).toNatClampNeg → vp_in a1 4 ∧ wX6_narrowed (S 30 a1.toNatClampNeg) a3 (fun r6 => vp_in (((40 : Int32) * a1) + a2) 160 ∧ ∀ J8 : Lon, J8 = upL J 32 (((40 : Int32) * a1) + a2).toNatClampNeg r6 → post x5 S J8))))) ∧ (¬ (r1 = 0) → wX6_finds S J r1 (fun r14 S16 => post r14.toInt64 S16 J))))
set_option maxRecDepth 100000 in
set_option maxHeartbeats 4000000 in
theorem kX6_write (l : Launch) (g : Gl)  (q : Nat → Nat) (sz : Nat) (S : Bun) (J : Lon) (a1 : Int32) (a2 : Int32) (a3 : Int64) (post : Int64 → Bun → Lon → Prop) (h : wX6_write S J a1 a2 a3 post) : Met l yX6_write wsX6_write (rmm 3 66) (wPc g E0 ((wM g q) (S, J)) sz [.ref (q 0), .int a1, .int a2, .long a3]) (va_Ql (fun (r : Int64) (u : Bun × Lon) => post r u.1 u.2) (wB g (wM g q) (va_A ((wM g q) (S, J)) sz)) (va_A ((wM g q) (S, J)) sz)) 0 0 (va_A ((wM g q) (S, J)) sz) := by
  refine mstart (Qf := fun A => va_Ql (fun (r : Int64) (u : Bun × Lon) => post r u.1 u.2) (wB g (wM g q) A) A) (by decide) rfl (Nat.le_of_ble_eq_true rfl) ?_
  intro p e s m args below meth c A Q H locs ls hC hr hlocks hname hQ hA hK hE hw hl
  have hC : CallFix p m c cX6_write 8 s args wsX6_write RX6 := hC
  obtain ⟨hx, hb, -, hown, hts⟩ := id hC
  have hl : lv_has ls 8 [(0, .ref (q 0)), (1, .int a1), (2, .int a2), (3, .long a3)] := hl
  rw [wX6_write] at h
  have hinX6 : ∀ w ∈ wsX60, w ∈ wsX6_write := fun w hw9 => List.mem_cons_of_mem _ (List.mem_append_right _ hw9)
  refine lv_aload_n hx hb dX6_write_0 rfl (lv_at hl 0 rfl) ?_
  refine lv_iload_n hx hb dX6_write_1 rfl (lv_at hl 1 rfl) ?_
  refine mcalli (w1 := (wM g q)) (va_runV (As := [.int a1]) (rest := []) hC (kX6_wrong l g  q H.size S J a1 _ h) (cwV 1 hts gX6_write_X6_wrong rfl rfl rfl (by decide +kernel) ⟨Nat.le_of_ble_eq_true rfl, Nat.le_of_ble_eq_true rfl⟩) (mpreV E0_ok hK hE hA hw (Sub1.refl _) 0 rfl rfl) rfl rfl hl.1 rfl (lv_room (Nat.le_of_ble_eq_true rfl)) dX6_write_2 ⟨Nat.zero_le _, Nat.zero_le _⟩) hA hw (Sub1.refl _) (fun _ => Sub.whole rfl) (fun r1 u2 H locs h hw => ?_)
  obtain ⟨hu, h⟩ := h
  replace hu := hu.symm
  subst hu
  refine lv_istore (lv' := [(5, .int r1), (0, .ref (q 0)), (1, .int a1), (2, .int a2), (3, .long a3)]) hx hb dX6_write_5 hl (by decide) rfl (fun ls hl => ?_)
  refine lv_iload hx hb dX6_write_7 (lv_at hl 0 rfl) ?_
  refine lv_if_eq (tgt := 20) hx hb dX6_write_9 (by decide) (fun c18 => ?_) (fun c18 => ?_)
  · replace h := h.1 c18
    refine lv_iload_n hx hb dX6_write_20 rfl (lv_at hl 3 rfl) ?_
    refine lv_i2l (v := a2.toInt64) hx hb dX6_write_21 rfl ?_
    refine lv_lconst (v := (0 : Int64)) hx hb dX6_write_22 (by decide) ?_
    refine lv_aload_n hx hb dX6_write_23 rfl (lv_at hl 1 rfl) ?_
    refine M_mg30 hC hinX6 hK hw (List.mem_of_getElem? (i := 1) rfl) dX6_write_24 ?_
    refine lv_iload_n hx hb dX6_write_27 rfl (lv_at hl 2 rfl) ?_
    obtain ⟨hi, h⟩ := h
    refine M_ml30 hC hK hw hi dX6_write_28 ?_
    refine lv_iconst (v := (1 : Int32)) hx hb dX6_write_29 (by decide) ?_
    refine lv_isub hx hb dX6_write_30 ?_
    refine lv_i2l (v := ((S 31 a1.toNatClampNeg) - (1 : Int32)).toInt64) hx hb dX6_write_31 rfl ?_
    refine mcalli (w1 := (fun _ => (wM g q) (S, J))) (wc := fun _ : Unit => ([] : va_W)) (u := ()) (va_runS (As := [.long a2.toInt64, .long (0 : Int64), .long (((S 31 a1.toNatClampNeg) - (1 : Int32)).toInt64)]) (rest := []) hC (kX6_in l g  H.size a2.toInt64 (0 : Int64) (((S 31 a1.toNatClampNeg) - (1 : Int32)).toInt64) _ h) (va_cwS 3 hts gX6_write_X6_in rfl rfl rfl (by decide +kernel) ⟨Nat.le_of_ble_eq_true rfl, Nat.le_of_ble_eq_true rfl⟩) (mpre E0_ok hK hE hA hw (Sub1.nil _)) rfl rfl hl.1 rfl (lv_room (Nat.le_of_ble_eq_true rfl)) dX6_write_32 ⟨Nat.zero_le _, Nat.zero_le _⟩) hA hw (Sub1.nil _) (fun _ => Sub.nil _) (fun r3 u4 H locs h hw => ?_)
    obtain ⟨_, h⟩ := h
    refine lv_if_ne (tgt := 46) hx hb dX6_write_35 (by decide) (fun c13 => ?_) (fun c13 => ?_)
    · replace h := h.2 c13
      refine lv_aload_n hx hb dX6_write_46 rfl (lv_at hl 1 rfl) ?_
      refine M_mg31 hC hinX6 hK hw (List.mem_of_getElem? (i := 3) rfl) dX6_write_47 ?_
      refine lv_bipush (v := (40 : Int32)) hx hb dX6_write_50 (by decide) ?_
      refine lv_iload_n hx hb dX6_write_52 rfl (lv_at hl 2 rfl) ?_
      refine lv_imul hx hb dX6_write_53 ?_
      refine lv_iload_n hx hb dX6_write_54 rfl (lv_at hl 3 rfl) ?_
      refine lv_iadd hx hb dX6_write_55 ?_
      obtain ⟨hi, h⟩ := h
      refine M_ml31 hC hK hw hi dX6_write_56 ?_
      refine lv_topl (fun x5 ex5 => ?_)
      replace h := h x5 ex5
      refine lv_lstore (lv' := [(6, .long x5), (5, .int r1), (0, .ref (q 0)), (1, .int a1), (2, .int a2), (3, .long a3)]) hx hb dX6_write_57 hl (by decide) rfl (fun ls hl => ?_)
      refine lv_aload_n hx hb dX6_write_59 rfl (lv_at hl 2 rfl) ?_
      refine M_mg31 hC hinX6 hK hw (List.mem_of_getElem? (i := 3) rfl) dX6_write_60 ?_
      refine lv_bipush (v := (40 : Int32)) hx hb dX6_write_63 (by decide) ?_
      refine lv_iload_n hx hb dX6_write_65 rfl (lv_at hl 3 rfl) ?_
      refine lv_imul hx hb dX6_write_66 ?_
      refine lv_iload_n hx hb dX6_write_67 rfl (lv_at hl 4 rfl) ?_
      refine lv_iadd hx hb dX6_write_68 ?_
      refine lv_aload_n hx hb dX6_write_69 rfl (lv_at hl 2 rfl) ?_
      refine M_mg29 hC hinX6 hK hw (List.mem_of_getElem? (i := 4) rfl) dX6_write_70 ?_
      refine lv_iload_n hx hb dX6_write_73 rfl (lv_at hl 3 rfl) ?_
      obtain ⟨hi, h⟩ := h
      refine M_ml29 hC hK hw hi dX6_write_74 ?_
      refine lv_lload_n hx hb dX6_write_75 rfl (lv_at hl 5 rfl) ?_
      refine mcalll (w1 := (fun _ => (wM g q) (S, J))) (wc := fun _ : Unit => ([] : va_W)) (u := ()) (va_runS (As := [.int (S 30 a1.toNatClampNeg), .long a3]) (rest := [.int (((40 : Int32) * a1) + a2), .ref (q 32)]) hC (kX6_narrowed l g  H.size (S 30 a1.toNatClampNeg) a3 _ h) (va_cwS 2 hts gX6_write_X6_narrowed rfl rfl rfl (by decide +kernel) ⟨Nat.le_of_ble_eq_true rfl, Nat.le_of_ble_eq_true rfl⟩) (mpre E0_ok hK hE hA hw (Sub1.nil _)) rfl rfl hl.1 rfl (lv_room (Nat.le_of_ble_eq_true rfl)) dX6_write_76 ⟨Nat.zero_le _, Nat.zero_le _⟩) hA hw (Sub1.nil _) (fun _ => Sub.nil _) (fun r6 u7 H locs h hw => ?_)
      obtain ⟨_, h⟩ := h
      obtain ⟨hi, h⟩ := h
      refine M_ms31 hC hK hw hi dX6_write_79 (fun J8 H locs eJ8 hw => ?_)
      replace h := h J8 eJ8
      refine lv_lload hx hb dX6_write_80 (lv_at hl 0 rfl) ?_
      rw [hQ]
      exact mretl (w := (wM g q)) (u := (S, J8)) hC hr hlocks hK hw h dX6_write_82
    · replace h := h.1 c13
      refine lv_aload_n hx hb dX6_write_38 rfl (lv_at hl 1 rfl) ?_
      refine lv_ldc (v := (-1000000001 : Int32)) hx hb hown (hts (.constant RX6 68 (-1000000001)) (List.mem_of_getElem? (i := 2) rfl)) dX6_write_39 ?_
      refine mcalli (w1 := (wM g q)) (va_runV (As := [.int (-1000000001 : Int32)]) (rest := []) hC (kX6_finds l g  q H.size S J (-1000000001 : Int32) _ h) (cwV 1 hts gX6_write_X6_finds rfl rfl rfl (by decide +kernel) ⟨Nat.le_of_ble_eq_true rfl, Nat.le_of_ble_eq_true rfl⟩) (mpreV E0_ok hK hE hA hw (Sub1.refl _) 0 rfl rfl) rfl rfl hl.1 rfl (lv_room (Nat.le_of_ble_eq_true rfl)) dX6_write_41 ⟨Nat.zero_le _, Nat.zero_le _⟩) hA hw (Sub1.refl _) (fun _ => Sub.whole rfl) (fun r9 u10 H locs h hw => ?_)
      obtain ⟨S11, J12⟩ := u10
      obtain ⟨hu, h⟩ := h
      replace hu : J = J12 := hu.symm
      subst hu
      refine lv_i2l (v := r9.toInt64) hx hb dX6_write_44 rfl ?_
      rw [hQ]
      exact mretl (w := (wM g q)) (u := (S11, J)) hC hr hlocks hK hw h dX6_write_45
  · replace h := h.2 c18
    refine lv_aload_n hx hb dX6_write_12 rfl (lv_at hl 1 rfl) ?_
    refine lv_iload hx hb dX6_write_13 (lv_at hl 0 rfl) ?_
    refine mcalli (w1 := (wM g q)) (va_runV (As := [.int r1]) (rest := []) hC (kX6_finds l g  q H.size S J r1 _ h) (cwV 1 hts gX6_write_X6_finds rfl rfl rfl (by decide +kernel) ⟨Nat.le_of_ble_eq_true rfl, Nat.le_of_ble_eq_true rfl⟩) (mpreV E0_ok hK hE hA hw (Sub1.refl _) 0 rfl rfl) rfl rfl hl.1 rfl (lv_room (Nat.le_of_ble_eq_true rfl)) dX6_write_15 ⟨Nat.zero_le _, Nat.zero_le _⟩) hA hw (Sub1.refl _) (fun _ => Sub.whole rfl) (fun r14 u15 H locs h hw => ?_)
    obtain ⟨S16, J17⟩ := u15
    obtain ⟨hu, h⟩ := h
    replace hu : J = J17 := hu.symm
    subst hu
    refine lv_i2l (v := r14.toInt64) hx hb dX6_write_18 rfl ?_
    rw [hQ]
    exact mretl (w := (wM g q)) (u := (S16, J)) hC hr hlocks hK hw h dX6_write_19
def wX6_copy (S : Bun) (J : Lon) (a1 : Int32) (a2 : Int32) (a3 : Int32) (a4 : Int32) (a5 : Int32) (post : Int32 → Bun → Lon → Prop) : Prop :=
  wX6_isOne a1 (fun r1 => wjoin (σ := Unit) (fun _ => wX6_finds S J (-1000000001 : Int32) (fun r6 S8 => post r6 S8 J)) (fun J3 => ((r1 = 0 → J3 ()) ∧ (¬ (r1 = 0) → wX6_isOne a3 (fun r10 => ((r10 = 0 → J3 ()) ∧ (¬ (r10 = 0) → vp_in a1 4 ∧ wjoin (σ := Unit) (fun _ => wX6_finds S J (-1000000006 : Int32) (fun r15 S17 => post r15 S17 J)) (fun J12 => (((S 30 a1.toNatClampNeg) = 0 → J12 ()) ∧ (¬ ((S 30 a1.toNatClampNeg) = 0) → vp_in a3 4 ∧ (((S 30 a3.toNatClampNeg) = 0 → J12 ()) ∧ (¬ ((S 30 a3.toNatClampNeg) = 0) → vp_in a1 4 ∧ vp_in a3 4 ∧ (((S 30 a1.toNatClampNeg) = (S 30 a3.toNatClampNeg) → wjoin (σ := Unit) (fun _ => wX6_finds S J (-1000000001 : Int32) (fun r22 S24 => post r22 S24 J)) (fun J19 => ((a2 < 0 → J19 ()) ∧ (¬ (a2 < 0) → ((a4 < 0 → J19 ()) ∧ (¬ (a4 < 0) → ((a5 < 0 → J19 ()) ∧ (¬ (a5 < 0) → vp_in a1 4 ∧ ((((S 31 a1.toNatClampNeg) - a2) < a5 → J19 ()) ∧ (¬ (((S 31 a1.toNatClampNeg) - a2) < a5) → vp_in a3 4 ∧ ((a5 ≤ ((S 31 a3.toNatClampNeg) - a4) → wloop (σ := Int32 × Lon) (fun K28 z => match z with | (x26, J27) => ((a5 ≤ x26 → wloop (σ := Int32 × Lon) (fun K36 z => match z with | (x34, J35) => ((a5 ≤ x34 → post a5 S J35) ∧ (¬ (a5 ≤ x34) → vp_in x34 40 ∧ vp_in ((((40 : Int32) * a3) + a4) + x34) 160 ∧ ∀ J42 : Lon, J42 = upL J35 32 ((((40 : Int32) * a3) + a4) + x34).toNatClampNeg (J35 33 x34.toNatClampNeg) → ∀ x43 : Int32, x43 = x34 + (1 : Int32) → K36 (x43, J42)))) ((0 : Int32), J27)) ∧ (¬ (a5 ≤ x26) → vp_in ((((40 : Int32) * a1) + a2) + x26) 160 ∧ vp_in x26 40 ∧ ∀ J46 : Lon, J46 = upL J27 33 x26.toNatClampNeg (J27 32 ((((40 : Int32) * a1) + a2) + x26).toNatClampNeg) → ∀ x47 : Int32, x47 = x26 + (1 : Int32) → K28 (x47, J46)))) ((0 : Int32), J)) ∧ (¬ (a5 ≤ ((S 31 a3.toNatClampNeg) - a4)) → J19 ())))))))))))) ∧ (¬ ((S 30 a1.toNatClampNeg) = (S 30 a3.toNatClampNeg)) → wX6_finds S J (-1000000003 : Int32) (fun r55 S57 => post r55 S57 J)))))))))))))))
set_option maxRecDepth 100000 in
set_option maxHeartbeats 4000000 in
theorem kX6_copy (l : Launch) (g : Gl)  (q : Nat → Nat) (sz : Nat) (S : Bun) (J : Lon) (a1 : Int32) (a2 : Int32) (a3 : Int32) (a4 : Int32) (a5 : Int32) (post : Int32 → Bun → Lon → Prop) (h : wX6_copy S J a1 a2 a3 a4 a5 post) : Met l yX6_copy wsX6_copy (rmm 2 45) (wPc g E0 ((wM g q) (S, J)) sz [.ref (q 0), .int a1, .int a2, .int a3, .int a4, .int a5]) (va_Qi (fun (r : Int32) (u : Bun × Lon) => post r u.1 u.2) (wB g (wM g q) (va_A ((wM g q) (S, J)) sz)) (va_A ((wM g q) (S, J)) sz)) 0 0 (va_A ((wM g q) (S, J)) sz) := by
  refine mstart (Qf := fun A => va_Qi (fun (r : Int32) (u : Bun × Lon) => post r u.1 u.2) (wB g (wM g q) A) A) (by decide) rfl (Nat.le_of_ble_eq_true rfl) ?_
  intro p e s m args below meth c A Q H locs ls hC hr hlocks hname hQ hA hK hE hw hl
  have hC : CallFix p m c cX6_copy 7 s args wsX6_copy RX6 := hC
  obtain ⟨hx, hb, -, hown, hts⟩ := id hC
  have hl : lv_has ls 7 [(0, .ref (q 0)), (1, .int a1), (2, .int a2), (3, .int a3), (4, .int a4), (5, .int a5)] := hl
  rw [wX6_copy] at h
  have hinX6 : ∀ w ∈ wsX60, w ∈ wsX6_copy := fun w hw9 => List.mem_cons_of_mem _ (List.mem_append_right _ hw9)
  refine lv_iload_n hx hb dX6_copy_0 rfl (lv_at hl 1 rfl) ?_
  refine mcalli (w1 := (fun _ => (wM g q) (S, J))) (wc := fun _ : Unit => ([] : va_W)) (u := ()) (va_runS (As := [.int a1]) (rest := []) hC (kX6_isOne l g  H.size a1 _ h) (va_cwS 1 hts gX6_copy_X6_isOne rfl rfl rfl (by decide +kernel) ⟨Nat.le_of_ble_eq_true rfl, Nat.le_of_ble_eq_true rfl⟩) (mpre E0_ok hK hE hA hw (Sub1.nil _)) rfl rfl hl.1 rfl (lv_room (Nat.le_of_ble_eq_true rfl)) dX6_copy_1 ⟨Nat.zero_le _, Nat.zero_le _⟩) hA hw (Sub1.nil _) (fun _ => Sub.nil _) (fun r1 u2 H locs h hw => ?_)
  obtain ⟨_, h⟩ := h
  obtain ⟨J3, hJ4, h⟩ := h
  have join5 : ∀  (H : Heap) (locs : List Loc) (ls : Array Slot), J3 () → Wd g.1 A s.heap ((wM g q) (S, J)) H locs → lv_has ls 7 [(0, .ref (q 0))] → W p l e (rmm 2 45) s m args below meth c H locs 0 0 Q (F0 m 14 ls []) := by
    intro  H locs ls h hw hl
    replace h := hJ4 () h
    refine lv_aload_n hx hb dX6_copy_14 rfl (lv_at hl 0 rfl) ?_
    refine lv_ldc (v := (-1000000001 : Int32)) hx hb hown (hts (.constant RX6 68 (-1000000001)) (List.mem_of_getElem? (i := 1) rfl)) dX6_copy_15 ?_
    refine mcalli (w1 := (wM g q)) (va_runV (As := [.int (-1000000001 : Int32)]) (rest := []) hC (kX6_finds l g  q H.size S J (-1000000001 : Int32) _ h) (cwV 1 hts gX6_copy_X6_finds rfl rfl rfl (by decide +kernel) ⟨Nat.le_of_ble_eq_true rfl, Nat.le_of_ble_eq_true rfl⟩) (mpreV E0_ok hK hE hA hw (Sub1.refl _) 0 rfl rfl) rfl rfl hl.1 rfl (lv_room (Nat.le_of_ble_eq_true rfl)) dX6_copy_17 ⟨Nat.zero_le _, Nat.zero_le _⟩) hA hw (Sub1.refl _) (fun _ => Sub.whole rfl) (fun r6 u7 H locs h hw => ?_)
    obtain ⟨S8, J9⟩ := u7
    obtain ⟨hu, h⟩ := h
    replace hu : J = J9 := hu.symm
    subst hu
    rw [hQ]
    exact mreti (w := (wM g q)) (u := (S8, J)) hC hr hlocks hK hw h dX6_copy_20
  refine lv_if_eq (tgt := 14) hx hb dX6_copy_4 (by decide) (fun c63 => ?_) (fun c63 => ?_)
  · replace h := h.1 c63
    exact join5  _ _ _ h hw (lv_sub hl [0] rfl)
  · replace h := h.2 c63
    refine lv_iload_n hx hb dX6_copy_7 rfl (lv_at hl 3 rfl) ?_
    refine mcalli (w1 := (fun _ => (wM g q) (S, J))) (wc := fun _ : Unit => ([] : va_W)) (u := ()) (va_runS (As := [.int a3]) (rest := []) hC (kX6_isOne l g  H.size a3 _ h) (va_cwS 1 hts gX6_copy_X6_isOne rfl rfl rfl (by decide +kernel) ⟨Nat.le_of_ble_eq_true rfl, Nat.le_of_ble_eq_true rfl⟩) (mpre E0_ok hK hE hA hw (Sub1.nil _)) rfl rfl hl.1 rfl (lv_room (Nat.le_of_ble_eq_true rfl)) dX6_copy_8 ⟨Nat.zero_le _, Nat.zero_le _⟩) hA hw (Sub1.nil _) (fun _ => Sub.nil _) (fun r10 u11 H locs h hw => ?_)
    obtain ⟨_, h⟩ := h
    refine lv_if_ne (tgt := 21) hx hb dX6_copy_11 (by decide) (fun c62 => ?_) (fun c62 => ?_)
    · replace h := h.2 c62
      refine lv_aload_n hx hb dX6_copy_21 rfl (lv_at hl 0 rfl) ?_
      refine M_mg29 hC hinX6 hK hw (List.mem_of_getElem? (i := 2) rfl) dX6_copy_22 ?_
      refine lv_iload_n hx hb dX6_copy_25 rfl (lv_at hl 1 rfl) ?_
      obtain ⟨hi, h⟩ := h
      refine M_ml29 hC hK hw hi dX6_copy_26 ?_
      obtain ⟨J12, hJ13, h⟩ := h
      have join14 : ∀  (H : Heap) (locs : List Loc) (ls : Array Slot), J12 () → Wd g.1 A s.heap ((wM g q) (S, J)) H locs → lv_has ls 7 [(0, .ref (q 0))] → W p l e (rmm 2 45) s m args below meth c H locs 0 0 Q (F0 m 39 ls []) := by
        intro  H locs ls h hw hl
        replace h := hJ13 () h
        refine lv_aload_n hx hb dX6_copy_39 rfl (lv_at hl 0 rfl) ?_
        refine lv_ldcw (v := (-1000000006 : Int32)) hx hb hown (hts (.constant RX6 294 (-1000000006)) (List.mem_of_getElem? (i := 3) rfl)) dX6_copy_40 ?_
        refine mcalli (w1 := (wM g q)) (va_runV (As := [.int (-1000000006 : Int32)]) (rest := []) hC (kX6_finds l g  q H.size S J (-1000000006 : Int32) _ h) (cwV 1 hts gX6_copy_X6_finds rfl rfl rfl (by decide +kernel) ⟨Nat.le_of_ble_eq_true rfl, Nat.le_of_ble_eq_true rfl⟩) (mpreV E0_ok hK hE hA hw (Sub1.refl _) 0 rfl rfl) rfl rfl hl.1 rfl (lv_room (Nat.le_of_ble_eq_true rfl)) dX6_copy_43 ⟨Nat.zero_le _, Nat.zero_le _⟩) hA hw (Sub1.refl _) (fun _ => Sub.whole rfl) (fun r15 u16 H locs h hw => ?_)
        obtain ⟨S17, J18⟩ := u16
        obtain ⟨hu, h⟩ := h
        replace hu : J = J18 := hu.symm
        subst hu
        rw [hQ]
        exact mreti (w := (wM g q)) (u := (S17, J)) hC hr hlocks hK hw h dX6_copy_46
      refine lv_if_eq (tgt := 39) hx hb dX6_copy_27 (by decide) (fun c61 => ?_) (fun c61 => ?_)
      · replace h := h.1 c61
        exact join14  _ _ _ h hw (lv_sub hl [0] rfl)
      · replace h := h.2 c61
        refine lv_aload_n hx hb dX6_copy_30 rfl (lv_at hl 0 rfl) ?_
        refine M_mg29 hC hinX6 hK hw (List.mem_of_getElem? (i := 2) rfl) dX6_copy_31 ?_
        refine lv_iload_n hx hb dX6_copy_34 rfl (lv_at hl 3 rfl) ?_
        obtain ⟨hi, h⟩ := h
        refine M_ml29 hC hK hw hi dX6_copy_35 ?_
        refine lv_if_ne (tgt := 47) hx hb dX6_copy_36 (by decide) (fun c60 => ?_) (fun c60 => ?_)
        · replace h := h.2 c60
          refine lv_aload_n hx hb dX6_copy_47 rfl (lv_at hl 0 rfl) ?_
          refine M_mg29 hC hinX6 hK hw (List.mem_of_getElem? (i := 2) rfl) dX6_copy_48 ?_
          refine lv_iload_n hx hb dX6_copy_51 rfl (lv_at hl 1 rfl) ?_
          obtain ⟨hi, h⟩ := h
          refine M_ml29 hC hK hw hi dX6_copy_52 ?_
          refine lv_aload_n hx hb dX6_copy_53 rfl (lv_at hl 0 rfl) ?_
          refine M_mg29 hC hinX6 hK hw (List.mem_of_getElem? (i := 2) rfl) dX6_copy_54 ?_
          refine lv_iload_n hx hb dX6_copy_57 rfl (lv_at hl 3 rfl) ?_
          obtain ⟨hi, h⟩ := h
          refine M_ml29 hC hK hw hi dX6_copy_58 ?_
          refine lv_icmp_eq (tgt := 69) hx hb dX6_copy_59 (by decide) (fun c59 => ?_) (fun c59 => ?_)
          · replace h := h.1 c59
            refine lv_iload_n hx hb dX6_copy_69 rfl (lv_at hl 2 rfl) ?_
            obtain ⟨J19, hJ20, h⟩ := h
            have join21 : ∀  (H : Heap) (locs : List Loc) (ls : Array Slot), J19 () → Wd g.1 A s.heap ((wM g q) (S, J)) H locs → lv_has ls 7 [(0, .ref (q 0))] → W p l e (rmm 2 45) s m args below meth c H locs 0 0 Q (F0 m 110 ls []) := by
              intro  H locs ls h hw hl
              replace h := hJ20 () h
              refine lv_aload_n hx hb dX6_copy_110 rfl (lv_at hl 0 rfl) ?_
              refine lv_ldc (v := (-1000000001 : Int32)) hx hb hown (hts (.constant RX6 68 (-1000000001)) (List.mem_of_getElem? (i := 1) rfl)) dX6_copy_111 ?_
              refine mcalli (w1 := (wM g q)) (va_runV (As := [.int (-1000000001 : Int32)]) (rest := []) hC (kX6_finds l g  q H.size S J (-1000000001 : Int32) _ h) (cwV 1 hts gX6_copy_X6_finds rfl rfl rfl (by decide +kernel) ⟨Nat.le_of_ble_eq_true rfl, Nat.le_of_ble_eq_true rfl⟩) (mpreV E0_ok hK hE hA hw (Sub1.refl _) 0 rfl rfl) rfl rfl hl.1 rfl (lv_room (Nat.le_of_ble_eq_true rfl)) dX6_copy_113 ⟨Nat.zero_le _, Nat.zero_le _⟩) hA hw (Sub1.refl _) (fun _ => Sub.whole rfl) (fun r22 u23 H locs h hw => ?_)
              obtain ⟨S24, J25⟩ := u23
              obtain ⟨hu, h⟩ := h
              replace hu : J = J25 := hu.symm
              subst hu
              rw [hQ]
              exact mreti (w := (wM g q)) (u := (S24, J)) hC hr hlocks hK hw h dX6_copy_116
            refine lv_if_lt (tgt := 110) hx hb dX6_copy_70 (by decide) (fun c54 => ?_) (fun c54 => ?_)
            · replace h := h.1 c54
              exact join21  _ _ _ h hw (lv_sub hl [0] rfl)
            · replace h := h.2 c54
              refine lv_iload hx hb dX6_copy_73 (lv_at hl 4 rfl) ?_
              refine lv_if_lt (tgt := 110) hx hb dX6_copy_75 (by decide) (fun c53 => ?_) (fun c53 => ?_)
              · replace h := h.1 c53
                exact join21  _ _ _ h hw (lv_sub hl [0] rfl)
              · replace h := h.2 c53
                refine lv_iload hx hb dX6_copy_78 (lv_at hl 5 rfl) ?_
                refine lv_if_lt (tgt := 110) hx hb dX6_copy_80 (by decide) (fun c52 => ?_) (fun c52 => ?_)
                · replace h := h.1 c52
                  exact join21  _ _ _ h hw (lv_sub hl [0] rfl)
                · replace h := h.2 c52
                  refine lv_iload hx hb dX6_copy_83 (lv_at hl 5 rfl) ?_
                  refine lv_aload_n hx hb dX6_copy_85 rfl (lv_at hl 0 rfl) ?_
                  refine M_mg30 hC hinX6 hK hw (List.mem_of_getElem? (i := 5) rfl) dX6_copy_86 ?_
                  refine lv_iload_n hx hb dX6_copy_89 rfl (lv_at hl 1 rfl) ?_
                  obtain ⟨hi, h⟩ := h
                  refine M_ml30 hC hK hw hi dX6_copy_90 ?_
                  refine lv_iload_n hx hb dX6_copy_91 rfl (lv_at hl 2 rfl) ?_
                  refine lv_isub hx hb dX6_copy_92 ?_
                  refine lv_icmp_gt (tgt := 110) hx hb dX6_copy_93 (by decide) (fun c51 => ?_) (fun c51 => ?_)
                  · replace h := h.1 c51
                    exact join21  _ _ _ h hw (lv_sub hl [0] rfl)
                  · replace h := h.2 c51
                    refine lv_iload hx hb dX6_copy_96 (lv_at hl 5 rfl) ?_
                    refine lv_aload_n hx hb dX6_copy_98 rfl (lv_at hl 0 rfl) ?_
                    refine M_mg30 hC hinX6 hK hw (List.mem_of_getElem? (i := 5) rfl) dX6_copy_99 ?_
                    refine lv_iload_n hx hb dX6_copy_102 rfl (lv_at hl 3 rfl) ?_
                    obtain ⟨hi, h⟩ := h
                    refine M_ml30 hC hK hw hi dX6_copy_103 ?_
                    refine lv_iload hx hb dX6_copy_104 (lv_at hl 4 rfl) ?_
                    refine lv_isub hx hb dX6_copy_106 ?_
                    refine lv_icmp_le (tgt := 117) hx hb dX6_copy_107 (by decide) (fun c50 => ?_) (fun c50 => ?_)
                    · replace h := h.1 c50
                      refine lv_iconst (v := (0 : Int32)) hx hb dX6_copy_117 (by decide) ?_
                      refine lv_istore (lv' := [(6, .int (0 : Int32)), (0, .ref (q 0)), (1, .int a1), (2, .int a2), (3, .int a3), (4, .int a4), (5, .int a5)]) hx hb dX6_copy_118 hl (by decide) rfl (fun ls hl => ?_)
                      refine h (fun z => match z with | (x26, J27) => ∀ (H : Heap) (locs : List Loc) (ls : Array Slot), Wd g.1 A s.heap ((wM g q) (S, J27)) H locs → lv_has ls 7 [(0, .ref (q 0)), (1, .int a1), (2, .int a2), (3, .int a3), (4, .int a4), (5, .int a5), (6, .int x26)] → W p l e (rmm 2 45) s m args below meth c H locs 0 0 Q (F0 m 120 ls [])) ?_ _ _ _ hw (lv_sub hl [1, 2, 3, 4, 5, 6, 0] rfl)
                      clear h hw hl
                      rintro ⟨x26, J27⟩ h H locs ls hw hl
                      refine lv_iload hx hb dX6_copy_120 (lv_at hl 6 rfl) ?_
                      refine lv_iload hx hb dX6_copy_122 (lv_at hl 5 rfl) ?_
                      refine lv_icmp_ge (tgt := 154) hx hb dX6_copy_124 (by decide) (fun c49 => ?_) (fun c49 => ?_)
                      · replace h := h.1 c49
                        refine lv_iconst (v := (0 : Int32)) hx hb dX6_copy_154 (by decide) ?_
                        refine lv_istore (lv' := [(6, .int (0 : Int32)), (0, .ref (q 0)), (1, .int a1), (2, .int a2), (3, .int a3), (4, .int a4), (5, .int a5)]) hx hb dX6_copy_155 hl (by decide) rfl (fun ls hl => ?_)
                        refine h (fun z => match z with | (x34, J35) => ∀ (H : Heap) (locs : List Loc) (ls : Array Slot), Wd g.1 A s.heap ((wM g q) (S, J35)) H locs → lv_has ls 7 [(0, .ref (q 0)), (3, .int a3), (4, .int a4), (5, .int a5), (6, .int x34)] → W p l e (rmm 2 45) s m args below meth c H locs 0 0 Q (F0 m 157 ls [])) ?_ _ _ _ hw (lv_sub hl [1, 4, 5, 6, 0] rfl)
                        clear h hw hl
                        rintro ⟨x34, J35⟩ h H locs ls hw hl
                        refine lv_iload hx hb dX6_copy_157 (lv_at hl 4 rfl) ?_
                        refine lv_iload hx hb dX6_copy_159 (lv_at hl 3 rfl) ?_
                        refine lv_icmp_ge (tgt := 192) hx hb dX6_copy_161 (by decide) (fun c45 => ?_) (fun c45 => ?_)
                        · replace h := h.1 c45
                          refine lv_iload hx hb dX6_copy_192 (lv_at hl 3 rfl) ?_
                          rw [hQ]
                          exact mreti (w := (wM g q)) (u := (S, J35)) hC hr hlocks hK hw h dX6_copy_194
                        · replace h := h.2 c45
                          refine lv_aload_n hx hb dX6_copy_164 rfl (lv_at hl 0 rfl) ?_
                          refine M_mg31 hC hinX6 hK hw (List.mem_of_getElem? (i := 7) rfl) dX6_copy_165 ?_
                          refine lv_bipush (v := (40 : Int32)) hx hb dX6_copy_168 (by decide) ?_
                          refine lv_iload_n hx hb dX6_copy_170 rfl (lv_at hl 1 rfl) ?_
                          refine lv_imul hx hb dX6_copy_171 ?_
                          refine lv_iload hx hb dX6_copy_172 (lv_at hl 2 rfl) ?_
                          refine lv_iadd hx hb dX6_copy_174 ?_
                          refine lv_iload hx hb dX6_copy_175 (lv_at hl 4 rfl) ?_
                          refine lv_iadd hx hb dX6_copy_177 ?_
                          refine lv_aload_n hx hb dX6_copy_178 rfl (lv_at hl 0 rfl) ?_
                          refine M_mg32 hC hinX6 hK hw (List.mem_of_getElem? (i := 6) rfl) dX6_copy_179 ?_
                          refine lv_iload hx hb dX6_copy_182 (lv_at hl 4 rfl) ?_
                          obtain ⟨hi, h⟩ := h
                          refine M_ml32 hC hK hw hi dX6_copy_184 ?_
                          obtain ⟨hi, h⟩ := h
                          refine M_ms31 hC hK hw hi dX6_copy_185 (fun J42 H locs eJ42 hw => ?_)
                          replace h := h J42 eJ42
                          obtain ⟨x43, ex43⟩ : ∃ y : Int32, y = x34 + (1 : Int32) := ⟨_, rfl⟩
                          refine lv_iinc (v := x43) (lv' := [(6, .int x43), (0, .ref (q 0)), (3, .int a3), (4, .int a4), (5, .int a5)]) hx hb dX6_copy_186 hl (k := 4) rfl (by rw [ex43]; rfl) (by decide) rfl (fun ls hl => ?_)
                          replace h := h x43 ex43
                          refine lv_goto (tgt := 157) hx hb dX6_copy_189 (by decide) ?_
                          exact h _ _ _ hw (lv_sub hl [1, 2, 3, 4, 0] rfl)
                      · replace h := h.2 c49
                        refine lv_aload_n hx hb dX6_copy_127 rfl (lv_at hl 0 rfl) ?_
                        refine M_mg32 hC hinX6 hK hw (List.mem_of_getElem? (i := 6) rfl) dX6_copy_128 ?_
                        refine lv_iload hx hb dX6_copy_131 (lv_at hl 6 rfl) ?_
                        refine lv_aload_n hx hb dX6_copy_133 rfl (lv_at hl 0 rfl) ?_
                        refine M_mg31 hC hinX6 hK hw (List.mem_of_getElem? (i := 7) rfl) dX6_copy_134 ?_
                        refine lv_bipush (v := (40 : Int32)) hx hb dX6_copy_137 (by decide) ?_
                        refine lv_iload_n hx hb dX6_copy_139 rfl (lv_at hl 1 rfl) ?_
                        refine lv_imul hx hb dX6_copy_140 ?_
                        refine lv_iload_n hx hb dX6_copy_141 rfl (lv_at hl 2 rfl) ?_
                        refine lv_iadd hx hb dX6_copy_142 ?_
                        refine lv_iload hx hb dX6_copy_143 (lv_at hl 6 rfl) ?_
                        refine lv_iadd hx hb dX6_copy_145 ?_
                        obtain ⟨hi, h⟩ := h
                        refine M_ml31 hC hK hw hi dX6_copy_146 ?_
                        obtain ⟨hi, h⟩ := h
                        refine M_ms32 hC hK hw hi dX6_copy_147 (fun J46 H locs eJ46 hw => ?_)
                        replace h := h J46 eJ46
                        obtain ⟨x47, ex47⟩ : ∃ y : Int32, y = x26 + (1 : Int32) := ⟨_, rfl⟩
                        refine lv_iinc (v := x47) (lv' := [(6, .int x47), (0, .ref (q 0)), (1, .int a1), (2, .int a2), (3, .int a3), (4, .int a4), (5, .int a5)]) hx hb dX6_copy_148 hl (k := 6) rfl (by rw [ex47]; rfl) (by decide) rfl (fun ls hl => ?_)
                        replace h := h x47 ex47
                        refine lv_goto (tgt := 120) hx hb dX6_copy_151 (by decide) ?_
                        exact h _ _ _ hw (lv_sub hl [1, 2, 3, 4, 5, 6, 0] rfl)
                    · replace h := h.2 c50
                      exact join21  _ _ _ h hw (lv_sub hl [0] rfl)
          · replace h := h.2 c59
            refine lv_aload_n hx hb dX6_copy_62 rfl (lv_at hl 0 rfl) ?_
            refine lv_ldc (v := (-1000000003 : Int32)) hx hb hown (hts (.constant RX6 133 (-1000000003)) (List.mem_of_getElem? (i := 4) rfl)) dX6_copy_63 ?_
            refine mcalli (w1 := (wM g q)) (va_runV (As := [.int (-1000000003 : Int32)]) (rest := []) hC (kX6_finds l g  q H.size S J (-1000000003 : Int32) _ h) (cwV 1 hts gX6_copy_X6_finds rfl rfl rfl (by decide +kernel) ⟨Nat.le_of_ble_eq_true rfl, Nat.le_of_ble_eq_true rfl⟩) (mpreV E0_ok hK hE hA hw (Sub1.refl _) 0 rfl rfl) rfl rfl hl.1 rfl (lv_room (Nat.le_of_ble_eq_true rfl)) dX6_copy_65 ⟨Nat.zero_le _, Nat.zero_le _⟩) hA hw (Sub1.refl _) (fun _ => Sub.whole rfl) (fun r55 u56 H locs h hw => ?_)
            obtain ⟨S57, J58⟩ := u56
            obtain ⟨hu, h⟩ := h
            replace hu : J = J58 := hu.symm
            subst hu
            rw [hQ]
            exact mreti (w := (wM g q)) (u := (S57, J)) hC hr hlocks hK hw h dX6_copy_68
        · replace h := h.1 c60
          exact join14  _ _ _ h hw (lv_sub hl [0] rfl)
    · replace h := h.1 c62
      exact join5  _ _ _ h hw (lv_sub hl [0] rfl)
def wX6_lays (S : Bun) (J : Lon) (a1 : Int32) (a2 : Int32) (post : Int32 → Bun → Prop) : Prop :=
  wX6_wrong S J a1 (fun r1 => ((r1 = 0 → wX6_isField S J a2 (fun r3 => ((r3 = 0 → wX6_finds S J (-1000000001 : Int32) (fun r38 S40 => post r38 S40)) ∧ (¬ (r3 = 0) → ∀ x5 : Int32, x5 = (2 : Int32) + ((6 : Int32) * a2) → wloop (σ := Int32 × Int32 × Bun) (fun K9 z => match z with | (x6, x7, S8) => vp_in a1 4 ∧ (((S8 31 a1.toNatClampNeg) ≤ x7 → post x6 S8) ∧ (¬ ((S8 31 a1.toNatClampNeg) ≤ x7) → (((16 : Int32) ≤ x7 → post x6 S8) ∧ (¬ ((16 : Int32) ≤ x7) → vp_in (((40 : Int32) * a1) + x7) 160 ∧ ∀ x15 : Int64, x15 = J 32 (((40 : Int32) * a1) + x7).toNatClampNeg → wX6_in x15 (0 : Int64) (2 : Int64) (fun r16 => ((r16 = 0 → ∀ x18 : Int32, x18 = x7 + (1 : Int32) → K9 (x6, x18, S8)) ∧ (¬ (r16 = 0) → wjoin (σ := Int32) (fun y20 => vp_in (x5 + (0 : Int32)) 56 ∧ ∀ S24 : Bun, S24 = up S8 1 (x5 + (0 : Int32)).toNatClampNeg y20 → wjoin (σ := Int32) (fun y25 => vp_in (x5 + (1 : Int32)) 56 ∧ ∀ S29 : Bun, S29 = up S24 1 (x5 + (1 : Int32)).toNatClampNeg y25 → ∀ x30 : Int32, x30 = x6 + (1 : Int32) → ∀ x31 : Int32, x31 = x7 + (1 : Int32) → K9 (x30, x31, S29)) (fun J26 => (((lg_cmp x15 (2 : Int64)) = 0 → vp_in (x5 + (1 : Int32)) 56 ∧ J26 ((S24 1 (x5 + (1 : Int32)).toNatClampNeg) ||| ((1 : Int32) <<< (x7 &&& 31)))) ∧ (¬ ((lg_cmp x15 (2 : Int64)) = 0) → vp_in (x5 + (1 : Int32)) 56 ∧ J26 ((S24 1 (x5 + (1 : Int32)).toNatClampNeg) &&& (((1 : Int32) <<< (x7 &&& 31)) ^^^ (-1 : Int32))))))) (fun J21 => (((lg_cmp x15 (1 : Int64)) = 0 → vp_in (x5 + (0 : Int32)) 56 ∧ J21 ((S8 1 (x5 + (0 : Int32)).toNatClampNeg) ||| ((1 : Int32) <<< (x7 &&& 31)))) ∧ (¬ ((lg_cmp x15 (1 : Int64)) = 0) → vp_in (x5 + (0 : Int32)) 56 ∧ J21 ((S8 1 (x5 + (0 : Int32)).toNatClampNeg) &&& (((1 : Int32) <<< (x7 &&& 31)) ^^^ (-1 : Int32)))))))))))))) ((0 : Int32), (0 : Int32), S))))) ∧ (¬ (r1 = 0) → wX6_finds S J r1 (fun r43 S45 => post r43 S45))))
set_option maxRecDepth 100000 in
set_option maxHeartbeats 4000000 in
theorem kX6_lays (l : Launch) (g : Gl)  (q : Nat → Nat) (sz : Nat) (S : Bun) (J : Lon) (a1 : Int32) (a2 : Int32) (post : Int32 → Bun → Prop) (h : wX6_lays S J a1 a2 post) : Met l yX6_lays wsX6_lays (rmm 3 66) (wPc g E0 ((wM g q) (S, J)) sz [.ref (q 0), .int a1, .int a2]) (va_Qi (fun (r : Int32) (u : Bun × Lon) => u.2 = J ∧ post r u.1) (wB g (wM g q) (va_A ((wM g q) (S, J)) sz)) (va_A ((wM g q) (S, J)) sz)) 0 0 (va_A ((wM g q) (S, J)) sz) := by
  refine mstart (Qf := fun A => va_Qi (fun (r : Int32) (u : Bun × Lon) => u.2 = J ∧ post r u.1) (wB g (wM g q) A) A) (by decide) rfl (Nat.le_of_ble_eq_true rfl) ?_
  intro p e s m args below meth c A Q H locs ls hC hr hlocks hname hQ hA hK hE hw hl
  have hC : CallFix p m c cX6_lays 9 s args wsX6_lays RX6 := hC
  obtain ⟨hx, hb, -, hown, hts⟩ := id hC
  have hl : lv_has ls 9 [(0, .ref (q 0)), (1, .int a1), (2, .int a2)] := hl
  rw [wX6_lays] at h
  have hinX6 : ∀ w ∈ wsX60, w ∈ wsX6_lays := fun w hw9 => List.mem_cons_of_mem _ (List.mem_append_right _ hw9)
  refine lv_aload_n hx hb dX6_lays_0 rfl (lv_at hl 0 rfl) ?_
  refine lv_iload_n hx hb dX6_lays_1 rfl (lv_at hl 1 rfl) ?_
  refine mcalli (w1 := (wM g q)) (va_runV (As := [.int a1]) (rest := []) hC (kX6_wrong l g  q H.size S J a1 _ h) (cwV 1 hts gX6_lays_X6_wrong rfl rfl rfl (by decide +kernel) ⟨Nat.le_of_ble_eq_true rfl, Nat.le_of_ble_eq_true rfl⟩) (mpreV E0_ok hK hE hA hw (Sub1.refl _) 0 rfl rfl) rfl rfl hl.1 rfl (lv_room (Nat.le_of_ble_eq_true rfl)) dX6_lays_2 ⟨Nat.zero_le _, Nat.zero_le _⟩) hA hw (Sub1.refl _) (fun _ => Sub.whole rfl) (fun r1 u2 H locs h hw => ?_)
  obtain ⟨hu, h⟩ := h
  replace hu := hu.symm
  subst hu
  refine lv_istore_n (lv' := [(3, .int r1), (0, .ref (q 0)), (1, .int a1), (2, .int a2)]) hx hb dX6_lays_5 rfl hl (by decide) rfl (fun ls hl => ?_)
  refine lv_iload_n hx hb dX6_lays_6 rfl (lv_at hl 0 rfl) ?_
  refine lv_if_eq (tgt := 16) hx hb dX6_lays_7 (by decide) (fun c47 => ?_) (fun c47 => ?_)
  · replace h := h.1 c47
    refine lv_aload_n hx hb dX6_lays_16 rfl (lv_at hl 1 rfl) ?_
    refine lv_iload_n hx hb dX6_lays_17 rfl (lv_at hl 3 rfl) ?_
    refine mcalli (w1 := (wM g q)) (va_runV (As := [.int a2]) (rest := []) hC (kX6_isField l g  q H.size S J a2 _ h) (cwV 1 hts gX6_lays_X6_isField rfl rfl rfl (by decide +kernel) ⟨Nat.le_of_ble_eq_true rfl, Nat.le_of_ble_eq_true rfl⟩) (mpreV E0_ok hK hE hA hw (Sub1.refl _) 0 rfl rfl) rfl rfl hl.1 rfl (lv_room (Nat.le_of_ble_eq_true rfl)) dX6_lays_18 ⟨Nat.zero_le _, Nat.zero_le _⟩) hA hw (Sub1.refl _) (fun _ => Sub.whole rfl) (fun r3 u4 H locs h hw => ?_)
    obtain ⟨hu, h⟩ := h
    replace hu := hu.symm
    subst hu
    refine lv_if_ne (tgt := 31) hx hb dX6_lays_21 (by decide) (fun c42 => ?_) (fun c42 => ?_)
    · replace h := h.2 c42
      refine lv_iconst (v := (0 : Int32)) hx hb dX6_lays_31 (by decide) ?_
      refine lv_istore (lv' := [(4, .int (0 : Int32)), (3, .int r1), (0, .ref (q 0)), (1, .int a1), (2, .int a2)]) hx hb dX6_lays_32 hl (by decide) rfl (fun ls hl => ?_)
      refine lv_iconst (v := (2 : Int32)) hx hb dX6_lays_34 (by decide) ?_
      refine lv_bipush (v := (6 : Int32)) hx hb dX6_lays_35 (by decide) ?_
      refine lv_iload_n hx hb dX6_lays_37 rfl (lv_at hl 4 rfl) ?_
      refine lv_imul hx hb dX6_lays_38 ?_
      refine lv_iadd hx hb dX6_lays_39 ?_
      refine lv_topi (fun x5 ex5 => ?_)
      replace h := h x5 ex5
      refine lv_istore (lv' := [(5, .int x5), (4, .int (0 : Int32)), (3, .int r1), (0, .ref (q 0)), (1, .int a1), (2, .int a2)]) hx hb dX6_lays_40 hl (by decide) rfl (fun ls hl => ?_)
      refine lv_iconst (v := (0 : Int32)) hx hb dX6_lays_42 (by decide) ?_
      refine lv_istore (lv' := [(6, .int (0 : Int32)), (5, .int x5), (4, .int (0 : Int32)), (3, .int r1), (0, .ref (q 0)), (1, .int a1), (2, .int a2)]) hx hb dX6_lays_43 hl (by decide) rfl (fun ls hl => ?_)
      refine h (fun z => match z with | (x6, x7, S8) => ∀ (H : Heap) (locs : List Loc) (ls : Array Slot), Wd g.1 A s.heap ((wM g q) (S8, J)) H locs → lv_has ls 9 [(0, .ref (q 0)), (1, .int a1), (4, .int x6), (5, .int x5), (6, .int x7)] → W p l e (rmm 3 66) s m args below meth c H locs 0 0 Q (F0 m 45 ls [])) ?_ _ _ _ hw (lv_sub hl [4, 5, 2, 1, 0] rfl)
      clear h hw hl
      rintro ⟨x6, x7, S8⟩ h H locs ls hw hl
      refine lv_iload hx hb dX6_lays_45 (lv_at hl 4 rfl) ?_
      refine lv_aload_n hx hb dX6_lays_47 rfl (lv_at hl 0 rfl) ?_
      refine M_mg30 hC hinX6 hK hw (List.mem_of_getElem? (i := 2) rfl) dX6_lays_48 ?_
      refine lv_iload_n hx hb dX6_lays_51 rfl (lv_at hl 1 rfl) ?_
      obtain ⟨hi, h⟩ := h
      refine M_ml30 hC hK hw hi dX6_lays_52 ?_
      refine lv_icmp_ge (tgt := 198) hx hb dX6_lays_53 (by decide) (fun c37 => ?_) (fun c37 => ?_)
      · replace h := h.1 c37
        refine lv_iload hx hb dX6_lays_198 (lv_at hl 2 rfl) ?_
        rw [hQ]
        exact mreti (w := (wM g q)) (u := (S8, J)) hC hr hlocks hK hw ⟨rfl, h⟩ dX6_lays_200
      · replace h := h.2 c37
        refine lv_iload hx hb dX6_lays_56 (lv_at hl 4 rfl) ?_
        refine lv_bipush (v := (16 : Int32)) hx hb dX6_lays_58 (by decide) ?_
        refine lv_icmp_ge (tgt := 198) hx hb dX6_lays_60 (by decide) (fun c36 => ?_) (fun c36 => ?_)
        · replace h := h.1 c36
          refine lv_iload hx hb dX6_lays_198 (lv_at hl 2 rfl) ?_
          rw [hQ]
          exact mreti (w := (wM g q)) (u := (S8, J)) hC hr hlocks hK hw ⟨rfl, h⟩ dX6_lays_200
        · replace h := h.2 c36
          refine lv_aload_n hx hb dX6_lays_63 rfl (lv_at hl 0 rfl) ?_
          refine M_mg31 hC hinX6 hK hw (List.mem_of_getElem? (i := 3) rfl) dX6_lays_64 ?_
          refine lv_bipush (v := (40 : Int32)) hx hb dX6_lays_67 (by decide) ?_
          refine lv_iload_n hx hb dX6_lays_69 rfl (lv_at hl 1 rfl) ?_
          refine lv_imul hx hb dX6_lays_70 ?_
          refine lv_iload hx hb dX6_lays_71 (lv_at hl 4 rfl) ?_
          refine lv_iadd hx hb dX6_lays_73 ?_
          obtain ⟨hi, h⟩ := h
          refine M_ml31 hC hK hw hi dX6_lays_74 ?_
          refine lv_topl (fun x15 ex15 => ?_)
          replace h := h x15 ex15
          refine lv_lstore (lv' := [(7, .long x15), (0, .ref (q 0)), (1, .int a1), (4, .int x6), (5, .int x5), (6, .int x7)]) hx hb dX6_lays_75 hl (by decide) rfl (fun ls hl => ?_)
          refine lv_lload hx hb dX6_lays_77 (lv_at hl 0 rfl) ?_
          refine lv_lconst (v := (0 : Int64)) hx hb dX6_lays_79 (by decide) ?_
          refine lv_ldc2 (v := (2 : Int64)) hx hb hown (hts (.constantLong RX6 125 (2)) (List.mem_of_getElem? (i := 4) rfl)) dX6_lays_80 ?_
          refine mcalli (w1 := (fun _ => (wM g q) (S8, J))) (wc := fun _ : Unit => ([] : va_W)) (u := ()) (va_runS (As := [.long x15, .long (0 : Int64), .long (2 : Int64)]) (rest := []) hC (kX6_in l g  H.size x15 (0 : Int64) (2 : Int64) _ h) (va_cwS 3 hts gX6_lays_X6_in rfl rfl rfl (by decide +kernel) ⟨Nat.le_of_ble_eq_true rfl, Nat.le_of_ble_eq_true rfl⟩) (mpre E0_ok hK hE hA hw (Sub1.nil _)) rfl rfl hl.1 rfl (lv_room (Nat.le_of_ble_eq_true rfl)) dX6_lays_83 ⟨Nat.zero_le _, Nat.zero_le _⟩) hA hw (Sub1.nil _) (fun _ => Sub.nil _) (fun r16 u17 H locs h hw => ?_)
          obtain ⟨_, h⟩ := h
          refine lv_if_eq (tgt := 192) hx hb dX6_lays_86 (by decide) (fun c35 => ?_) (fun c35 => ?_)
          · replace h := h.1 c35
            obtain ⟨x18, ex18⟩ : ∃ y : Int32, y = x7 + (1 : Int32) := ⟨_, rfl⟩
            refine lv_iinc (v := x18) (lv' := [(6, .int x18), (7, .long x15), (0, .ref (q 0)), (1, .int a1), (4, .int x6), (5, .int x5)]) hx hb dX6_lays_192 hl (k := 5) rfl (by rw [ex18]; rfl) (by decide) rfl (fun ls hl => ?_)
            replace h := h x18 ex18
            refine lv_goto (tgt := 45) hx hb dX6_lays_195 (by decide) ?_
            exact h _ _ _ hw (lv_sub hl [2, 3, 4, 5, 0] rfl)
          · replace h := h.2 c35
            refine lv_aload_n hx hb dX6_lays_89 rfl (lv_at hl 1 rfl) ?_
            refine M_mg0 hC hinX6 hK hw (List.mem_of_getElem? (i := 5) rfl) dX6_lays_90 ?_
            refine lv_iload hx hb dX6_lays_93 (lv_at hl 4 rfl) ?_
            refine lv_iconst (v := (0 : Int32)) hx hb dX6_lays_95 (by decide) ?_
            refine lv_iadd hx hb dX6_lays_96 ?_
            refine lv_lload hx hb dX6_lays_97 (lv_at hl 0 rfl) ?_
            refine lv_lconst (v := (1 : Int64)) hx hb dX6_lays_99 (by decide) ?_
            refine W.lcmp hx hb dX6_lays_100 ?_
            obtain ⟨J21, hJ22, h⟩ := h
            have join23 : ∀ (y20 : Int32) (H : Heap) (locs : List Loc) (ls : Array Slot), J21 y20 → Wd g.1 A s.heap ((wM g q) (S8, J)) H locs → lv_has ls 9 [(0, .ref (q 0)), (1, .int a1), (4, .int x6), (5, .int x5), (6, .int x7), (7, .long x15)] → W p l e (rmm 3 66) s m args below meth c H locs 0 0 Q (F0 m 137 ls [.int y20, .int (x5 + (0 : Int32)), .ref (q 1)]) := by
              intro y20 H locs ls h hw hl
              replace h := hJ22 y20 h
              obtain ⟨hi, h⟩ := h
              refine M_ms0 hC hK hw hi dX6_lays_137 (fun S24 H locs eS24 hw => ?_)
              replace h := h S24 eS24
              refine lv_aload_n hx hb dX6_lays_138 rfl (lv_at hl 0 rfl) ?_
              refine M_mg0 hC hinX6 hK hw (List.mem_of_getElem? (i := 5) rfl) dX6_lays_139 ?_
              refine lv_iload hx hb dX6_lays_142 (lv_at hl 3 rfl) ?_
              refine lv_iconst (v := (1 : Int32)) hx hb dX6_lays_144 (by decide) ?_
              refine lv_iadd hx hb dX6_lays_145 ?_
              refine lv_lload hx hb dX6_lays_146 (lv_at hl 5 rfl) ?_
              refine lv_ldc2 (v := (2 : Int64)) hx hb hown (hts (.constantLong RX6 125 (2)) (List.mem_of_getElem? (i := 4) rfl)) dX6_lays_148 ?_
              refine W.lcmp hx hb dX6_lays_151 ?_
              obtain ⟨J26, hJ27, h⟩ := h
              have join28 : ∀ (y25 : Int32) (H : Heap) (locs : List Loc) (ls : Array Slot), J26 y25 → Wd g.1 A s.heap ((wM g q) (S24, J)) H locs → lv_has ls 9 [(0, .ref (q 0)), (1, .int a1), (4, .int x6), (5, .int x5), (6, .int x7)] → W p l e (rmm 3 66) s m args below meth c H locs 0 0 Q (F0 m 188 ls [.int y25, .int (x5 + (1 : Int32)), .ref (q 1)]) := by
                intro y25 H locs ls h hw hl
                replace h := hJ27 y25 h
                obtain ⟨hi, h⟩ := h
                refine M_ms0 hC hK hw hi dX6_lays_188 (fun S29 H locs eS29 hw => ?_)
                replace h := h S29 eS29
                obtain ⟨x30, ex30⟩ : ∃ y : Int32, y = x6 + (1 : Int32) := ⟨_, rfl⟩
                refine lv_iinc (v := x30) (lv' := [(4, .int x30), (0, .ref (q 0)), (1, .int a1), (5, .int x5), (6, .int x7)]) hx hb dX6_lays_189 hl (k := 2) rfl (by rw [ex30]; rfl) (by decide) rfl (fun ls hl => ?_)
                replace h := h x30 ex30
                obtain ⟨x31, ex31⟩ : ∃ y : Int32, y = x7 + (1 : Int32) := ⟨_, rfl⟩
                refine lv_iinc (v := x31) (lv' := [(6, .int x31), (4, .int x30), (0, .ref (q 0)), (1, .int a1), (5, .int x5)]) hx hb dX6_lays_192 hl (k := 4) rfl (by rw [ex31]; rfl) (by decide) rfl (fun ls hl => ?_)
                replace h := h x31 ex31
                refine lv_goto (tgt := 45) hx hb dX6_lays_195 (by decide) ?_
                exact h _ _ _ hw (lv_sub hl [2, 3, 1, 4, 0] rfl)
              refine lv_if_ne (tgt := 172) hx hb dX6_lays_152 (by decide) (fun c33 => ?_) (fun c33 => ?_)
              · replace h := h.2 c33
                refine lv_aload_n hx hb dX6_lays_172 rfl (lv_at hl 0 rfl) ?_
                refine M_mg0 hC hinX6 hK hw (List.mem_of_getElem? (i := 5) rfl) dX6_lays_173 ?_
                refine lv_iload hx hb dX6_lays_176 (lv_at hl 3 rfl) ?_
                refine lv_iconst (v := (1 : Int32)) hx hb dX6_lays_178 (by decide) ?_
                refine lv_iadd hx hb dX6_lays_179 ?_
                obtain ⟨hi, h⟩ := h
                refine M_ml0 hC hK hw hi dX6_lays_180 ?_
                refine lv_iconst (v := (1 : Int32)) hx hb dX6_lays_181 (by decide) ?_
                refine lv_iload hx hb dX6_lays_182 (lv_at hl 4 rfl) ?_
                refine lv_ishl hx hb dX6_lays_184 ?_
                refine lv_iconst (v := (-1 : Int32)) hx hb dX6_lays_185 (by decide) ?_
                refine lv_ixor hx hb dX6_lays_186 ?_
                refine lv_iand hx hb dX6_lays_187 ?_
                exact join28 ((S24 1 (x5 + (1 : Int32)).toNatClampNeg) &&& (((1 : Int32) <<< (x7 &&& 31)) ^^^ (-1 : Int32))) _ _ _ h hw (lv_sub hl [0, 1, 2, 3, 4] rfl)
              · replace h := h.1 c33
                refine lv_aload_n hx hb dX6_lays_155 rfl (lv_at hl 0 rfl) ?_
                refine M_mg0 hC hinX6 hK hw (List.mem_of_getElem? (i := 5) rfl) dX6_lays_156 ?_
                refine lv_iload hx hb dX6_lays_159 (lv_at hl 3 rfl) ?_
                refine lv_iconst (v := (1 : Int32)) hx hb dX6_lays_161 (by decide) ?_
                refine lv_iadd hx hb dX6_lays_162 ?_
                obtain ⟨hi, h⟩ := h
                refine M_ml0 hC hK hw hi dX6_lays_163 ?_
                refine lv_iconst (v := (1 : Int32)) hx hb dX6_lays_164 (by decide) ?_
                refine lv_iload hx hb dX6_lays_165 (lv_at hl 4 rfl) ?_
                refine lv_ishl hx hb dX6_lays_167 ?_
                refine lv_ior hx hb dX6_lays_168 ?_
                refine lv_goto (tgt := 188) hx hb dX6_lays_169 (by decide) ?_
                exact join28 ((S24 1 (x5 + (1 : Int32)).toNatClampNeg) ||| ((1 : Int32) <<< (x7 &&& 31))) _ _ _ h hw (lv_sub hl [0, 1, 2, 3, 4] rfl)
            refine lv_if_ne (tgt := 121) hx hb dX6_lays_101 (by decide) (fun c34 => ?_) (fun c34 => ?_)
            · replace h := h.2 c34
              refine lv_aload_n hx hb dX6_lays_121 rfl (lv_at hl 1 rfl) ?_
              refine M_mg0 hC hinX6 hK hw (List.mem_of_getElem? (i := 5) rfl) dX6_lays_122 ?_
              refine lv_iload hx hb dX6_lays_125 (lv_at hl 4 rfl) ?_
              refine lv_iconst (v := (0 : Int32)) hx hb dX6_lays_127 (by decide) ?_
              refine lv_iadd hx hb dX6_lays_128 ?_
              obtain ⟨hi, h⟩ := h
              refine M_ml0 hC hK hw hi dX6_lays_129 ?_
              refine lv_iconst (v := (1 : Int32)) hx hb dX6_lays_130 (by decide) ?_
              refine lv_iload hx hb dX6_lays_131 (lv_at hl 5 rfl) ?_
              refine lv_ishl hx hb dX6_lays_133 ?_
              refine lv_iconst (v := (-1 : Int32)) hx hb dX6_lays_134 (by decide) ?_
              refine lv_ixor hx hb dX6_lays_135 ?_
              refine lv_iand hx hb dX6_lays_136 ?_
              exact join23 ((S8 1 (x5 + (0 : Int32)).toNatClampNeg) &&& (((1 : Int32) <<< (x7 &&& 31)) ^^^ (-1 : Int32))) _ _ _ h hw (lv_sub hl [1, 2, 3, 4, 5, 0] rfl)
            · replace h := h.1 c34
              refine lv_aload_n hx hb dX6_lays_104 rfl (lv_at hl 1 rfl) ?_
              refine M_mg0 hC hinX6 hK hw (List.mem_of_getElem? (i := 5) rfl) dX6_lays_105 ?_
              refine lv_iload hx hb dX6_lays_108 (lv_at hl 4 rfl) ?_
              refine lv_iconst (v := (0 : Int32)) hx hb dX6_lays_110 (by decide) ?_
              refine lv_iadd hx hb dX6_lays_111 ?_
              obtain ⟨hi, h⟩ := h
              refine M_ml0 hC hK hw hi dX6_lays_112 ?_
              refine lv_iconst (v := (1 : Int32)) hx hb dX6_lays_113 (by decide) ?_
              refine lv_iload hx hb dX6_lays_114 (lv_at hl 5 rfl) ?_
              refine lv_ishl hx hb dX6_lays_116 ?_
              refine lv_ior hx hb dX6_lays_117 ?_
              refine lv_goto (tgt := 137) hx hb dX6_lays_118 (by decide) ?_
              exact join23 ((S8 1 (x5 + (0 : Int32)).toNatClampNeg) ||| ((1 : Int32) <<< (x7 &&& 31))) _ _ _ h hw (lv_sub hl [1, 2, 3, 4, 5, 0] rfl)
    · replace h := h.1 c42
      refine lv_aload_n hx hb dX6_lays_24 rfl (lv_at hl 1 rfl) ?_
      refine lv_ldc (v := (-1000000001 : Int32)) hx hb hown (hts (.constant RX6 68 (-1000000001)) (List.mem_of_getElem? (i := 1) rfl)) dX6_lays_25 ?_
      refine mcalli (w1 := (wM g q)) (va_runV (As := [.int (-1000000001 : Int32)]) (rest := []) hC (kX6_finds l g  q H.size S J (-1000000001 : Int32) _ h) (cwV 1 hts gX6_lays_X6_finds rfl rfl rfl (by decide +kernel) ⟨Nat.le_of_ble_eq_true rfl, Nat.le_of_ble_eq_true rfl⟩) (mpreV E0_ok hK hE hA hw (Sub1.refl _) 0 rfl rfl) rfl rfl hl.1 rfl (lv_room (Nat.le_of_ble_eq_true rfl)) dX6_lays_27 ⟨Nat.zero_le _, Nat.zero_le _⟩) hA hw (Sub1.refl _) (fun _ => Sub.whole rfl) (fun r38 u39 H locs h hw => ?_)
      obtain ⟨S40, J41⟩ := u39
      obtain ⟨hu, h⟩ := h
      replace hu : J = J41 := hu.symm
      subst hu
      rw [hQ]
      exact mreti (w := (wM g q)) (u := (S40, J)) hC hr hlocks hK hw ⟨rfl, h⟩ dX6_lays_30
  · replace h := h.2 c47
    refine lv_aload_n hx hb dX6_lays_10 rfl (lv_at hl 1 rfl) ?_
    refine lv_iload_n hx hb dX6_lays_11 rfl (lv_at hl 0 rfl) ?_
    refine mcalli (w1 := (wM g q)) (va_runV (As := [.int r1]) (rest := []) hC (kX6_finds l g  q H.size S J r1 _ h) (cwV 1 hts gX6_lays_X6_finds rfl rfl rfl (by decide +kernel) ⟨Nat.le_of_ble_eq_true rfl, Nat.le_of_ble_eq_true rfl⟩) (mpreV E0_ok hK hE hA hw (Sub1.refl _) 0 rfl rfl) rfl rfl hl.1 rfl (lv_room (Nat.le_of_ble_eq_true rfl)) dX6_lays_12 ⟨Nat.zero_le _, Nat.zero_le _⟩) hA hw (Sub1.refl _) (fun _ => Sub.whole rfl) (fun r43 u44 H locs h hw => ?_)
    obtain ⟨S45, J46⟩ := u44
    obtain ⟨hu, h⟩ := h
    replace hu : J = J46 := hu.symm
    subst hu
    rw [hQ]
    exact mreti (w := (wM g q)) (u := (S45, J)) hC hr hlocks hK hw ⟨rfl, h⟩ dX6_lays_15
def wX6_draw (S : Bun) (J : Lon) (a1 : Int32) (a2 : Int32) (a3 : Int32) (post : Int32 → Bun → Lon → Prop) : Prop :=
  wX6_wrong S J a1 (fun r1 => ((r1 = 0 → wX6_isTeam S J a2 (fun r3 => wjoin (σ := Unit) (fun _ => wX6_finds S J (-1000000001 : Int32) (fun r8 S10 => post r8 S10 J)) (fun J5 => ((r3 = 0 → J5 ()) ∧ (¬ (r3 = 0) → wX6_isField S J a3 (fun r12 => ((r12 = 0 → J5 ()) ∧ (¬ (r12 = 0) → wX6_costOf S J a2 a3 (fun r14 S16 => ((0 ≤ r14 → vp_in a1 4 ∧ (((S16 31 a1.toNatClampNeg) ≤ (S16 0 13) → vp_in a1 4 ∧ ∀ x18 : Int32, x18 = S16 31 a1.toNatClampNeg → wloop (σ := Int32 × Lon) (fun K21 z => match z with | (x19, J20) => ((x18 ≤ x19 → post x18 S16 J20) ∧ (¬ (x18 ≤ x19) → vp_in x19 16 ∧ vp_in (((40 : Int32) * a1) + x19) 160 ∧ ∀ J27 : Lon, J27 = upL J20 32 (((40 : Int32) * a1) + x19).toNatClampNeg ((S16 10 x19.toNatClampNeg).toInt64) → ∀ x28 : Int32, x28 = x19 + (1 : Int32) → K21 (x28, J27)))) ((0 : Int32), J)) ∧ (¬ ((S16 31 a1.toNatClampNeg) ≤ (S16 0 13)) → ∀ x31 : Int32, x31 = S16 0 13 → wloop (σ := Int32 × Lon) (fun K34 z => match z with | (x32, J33) => ((x31 ≤ x32 → post x31 S16 J33) ∧ (¬ (x31 ≤ x32) → vp_in x32 16 ∧ vp_in (((40 : Int32) * a1) + x32) 160 ∧ ∀ J40 : Lon, J40 = upL J33 32 (((40 : Int32) * a1) + x32).toNatClampNeg ((S16 10 x32.toNatClampNeg).toInt64) → ∀ x41 : Int32, x41 = x32 + (1 : Int32) → K34 (x41, J40)))) ((0 : Int32), J)))) ∧ (¬ (0 ≤ r14) → wX6_finds S16 J (-1000000004 : Int32) (fun r45 S47 => post r45 S47 J)))))))))))) ∧ (¬ (r1 = 0) → wX6_finds S J r1 (fun r52 S54 => post r52 S54 J))))
set_option maxRecDepth 100000 in
set_option maxHeartbeats 4000000 in
theorem kX6_draw (l : Launch) (g : Gl)  (q : Nat → Nat) (sz : Nat) (S : Bun) (J : Lon) (a1 : Int32) (a2 : Int32) (a3 : Int32) (post : Int32 → Bun → Lon → Prop) (h : wX6_draw S J a1 a2 a3 post) : Met l yX6_draw wsX6_draw (rmm 6 150) (wPc g E0 ((wM g q) (S, J)) sz [.ref (q 0), .int a1, .int a2, .int a3]) (va_Qi (fun (r : Int32) (u : Bun × Lon) => post r u.1 u.2) (wB g (wM g q) (va_A ((wM g q) (S, J)) sz)) (va_A ((wM g q) (S, J)) sz)) 0 0 (va_A ((wM g q) (S, J)) sz) := by
  refine mstart (Qf := fun A => va_Qi (fun (r : Int32) (u : Bun × Lon) => post r u.1 u.2) (wB g (wM g q) A) A) (by decide) rfl (Nat.le_of_ble_eq_true rfl) ?_
  intro p e s m args below meth c A Q H locs ls hC hr hlocks hname hQ hA hK hE hw hl
  have hC : CallFix p m c cX6_draw 7 s args wsX6_draw RX6 := hC
  obtain ⟨hx, hb, -, hown, hts⟩ := id hC
  have hl : lv_has ls 7 [(0, .ref (q 0)), (1, .int a1), (2, .int a2), (3, .int a3)] := hl
  rw [wX6_draw] at h
  have hinX6 : ∀ w ∈ wsX60, w ∈ wsX6_draw := fun w hw9 => List.mem_cons_of_mem _ (List.mem_append_right _ hw9)
  refine lv_aload_n hx hb dX6_draw_0 rfl (lv_at hl 0 rfl) ?_
  refine lv_iload_n hx hb dX6_draw_1 rfl (lv_at hl 1 rfl) ?_
  refine mcalli (w1 := (wM g q)) (va_runV (As := [.int a1]) (rest := []) hC (kX6_wrong l g  q H.size S J a1 _ h) (cwV 1 hts gX6_draw_X6_wrong rfl rfl rfl (by decide +kernel) ⟨Nat.le_of_ble_eq_true rfl, Nat.le_of_ble_eq_true rfl⟩) (mpreV E0_ok hK hE hA hw (Sub1.refl _) 0 rfl rfl) rfl rfl hl.1 rfl (lv_room (Nat.le_of_ble_eq_true rfl)) dX6_draw_2 ⟨Nat.zero_le _, Nat.zero_le _⟩) hA hw (Sub1.refl _) (fun _ => Sub.whole rfl) (fun r1 u2 H locs h hw => ?_)
  obtain ⟨hu, h⟩ := h
  replace hu := hu.symm
  subst hu
  refine lv_istore (lv' := [(4, .int r1), (0, .ref (q 0)), (1, .int a1), (2, .int a2), (3, .int a3)]) hx hb dX6_draw_5 hl (by decide) rfl (fun ls hl => ?_)
  refine lv_iload hx hb dX6_draw_7 (lv_at hl 0 rfl) ?_
  refine lv_if_eq (tgt := 19) hx hb dX6_draw_9 (by decide) (fun c56 => ?_) (fun c56 => ?_)
  · replace h := h.1 c56
    refine lv_aload_n hx hb dX6_draw_19 rfl (lv_at hl 1 rfl) ?_
    refine lv_iload_n hx hb dX6_draw_20 rfl (lv_at hl 3 rfl) ?_
    refine mcalli (w1 := (wM g q)) (va_runV (As := [.int a2]) (rest := []) hC (kX6_isTeam l g  q H.size S J a2 _ h) (cwV 1 hts gX6_draw_X6_isTeam rfl rfl rfl (by decide +kernel) ⟨Nat.le_of_ble_eq_true rfl, Nat.le_of_ble_eq_true rfl⟩) (mpreV E0_ok hK hE hA hw (Sub1.refl _) 0 rfl rfl) rfl rfl hl.1 rfl (lv_room (Nat.le_of_ble_eq_true rfl)) dX6_draw_21 ⟨Nat.zero_le _, Nat.zero_le _⟩) hA hw (Sub1.refl _) (fun _ => Sub.whole rfl) (fun r3 u4 H locs h hw => ?_)
    obtain ⟨hu, h⟩ := h
    replace hu := hu.symm
    subst hu
    obtain ⟨J5, hJ6, h⟩ := h
    have join7 : ∀  (H : Heap) (locs : List Loc) (ls : Array Slot), J5 () → Wd g.1 A s.heap ((wM g q) (S, J)) H locs → lv_has ls 7 [(0, .ref (q 0))] → W p l e (rmm 6 150) s m args below meth c H locs 0 0 Q (F0 m 35 ls []) := by
      intro  H locs ls h hw hl
      replace h := hJ6 () h
      refine lv_aload_n hx hb dX6_draw_35 rfl (lv_at hl 0 rfl) ?_
      refine lv_ldc (v := (-1000000001 : Int32)) hx hb hown (hts (.constant RX6 68 (-1000000001)) (List.mem_of_getElem? (i := 1) rfl)) dX6_draw_36 ?_
      refine mcalli (w1 := (wM g q)) (va_runV (As := [.int (-1000000001 : Int32)]) (rest := []) hC (kX6_finds l g  q H.size S J (-1000000001 : Int32) _ h) (cwV 1 hts gX6_draw_X6_finds rfl rfl rfl (by decide +kernel) ⟨Nat.le_of_ble_eq_true rfl, Nat.le_of_ble_eq_true rfl⟩) (mpreV E0_ok hK hE hA hw (Sub1.refl _) 0 rfl rfl) rfl rfl hl.1 rfl (lv_room (Nat.le_of_ble_eq_true rfl)) dX6_draw_38 ⟨Nat.zero_le _, Nat.zero_le _⟩) hA hw (Sub1.refl _) (fun _ => Sub.whole rfl) (fun r8 u9 H locs h hw => ?_)
      obtain ⟨S10, J11⟩ := u9
      obtain ⟨hu, h⟩ := h
      replace hu : J = J11 := hu.symm
      subst hu
      rw [hQ]
      exact mreti (w := (wM g q)) (u := (S10, J)) hC hr hlocks hK hw h dX6_draw_41
    refine lv_if_eq (tgt := 35) hx hb dX6_draw_24 (by decide) (fun c51 => ?_) (fun c51 => ?_)
    · replace h := h.1 c51
      exact join7  _ _ _ h hw (lv_sub hl [1] rfl)
    · replace h := h.2 c51
      refine lv_aload_n hx hb dX6_draw_27 rfl (lv_at hl 1 rfl) ?_
      refine lv_iload_n hx hb dX6_draw_28 rfl (lv_at hl 4 rfl) ?_
      refine mcalli (w1 := (wM g q)) (va_runV (As := [.int a3]) (rest := []) hC (kX6_isField l g  q H.size S J a3 _ h) (cwV 1 hts gX6_draw_X6_isField rfl rfl rfl (by decide +kernel) ⟨Nat.le_of_ble_eq_true rfl, Nat.le_of_ble_eq_true rfl⟩) (mpreV E0_ok hK hE hA hw (Sub1.refl _) 0 rfl rfl) rfl rfl hl.1 rfl (lv_room (Nat.le_of_ble_eq_true rfl)) dX6_draw_29 ⟨Nat.zero_le _, Nat.zero_le _⟩) hA hw (Sub1.refl _) (fun _ => Sub.whole rfl) (fun r12 u13 H locs h hw => ?_)
      obtain ⟨hu, h⟩ := h
      replace hu := hu.symm
      subst hu
      refine lv_if_ne (tgt := 42) hx hb dX6_draw_32 (by decide) (fun c50 => ?_) (fun c50 => ?_)
      · replace h := h.2 c50
        refine lv_aload_n hx hb dX6_draw_42 rfl (lv_at hl 1 rfl) ?_
        refine lv_iload_n hx hb dX6_draw_43 rfl (lv_at hl 3 rfl) ?_
        refine lv_iload_n hx hb dX6_draw_44 rfl (lv_at hl 4 rfl) ?_
        refine mcalli (w1 := (wM g q)) (va_runV (As := [.int a2, .int a3]) (rest := []) hC (kX6_costOf l g  q H.size S J a2 a3 _ h) (cwV 2 hts gX6_draw_X6_costOf rfl rfl rfl (by decide +kernel) ⟨Nat.le_of_ble_eq_true rfl, Nat.le_of_ble_eq_true rfl⟩) (mpreV E0_ok hK hE hA hw (Sub1.refl _) 0 rfl rfl) rfl rfl hl.1 rfl (lv_room (Nat.le_of_ble_eq_true rfl)) dX6_draw_45 ⟨Nat.zero_le _, Nat.zero_le _⟩) hA hw (Sub1.refl _) (fun _ => Sub.whole rfl) (fun r14 u15 H locs h hw => ?_)
        obtain ⟨S16, J17⟩ := u15
        obtain ⟨hu, h⟩ := h
        replace hu : J = J17 := hu.symm
        subst hu
        refine lv_if_ge (tgt := 58) hx hb dX6_draw_48 (by decide) (fun c49 => ?_) (fun c49 => ?_)
        · replace h := h.1 c49
          refine lv_aload_n hx hb dX6_draw_58 rfl (lv_at hl 1 rfl) ?_
          refine M_mg13 hC hinX6 hK hw (List.mem_of_getElem? (i := 3) rfl) dX6_draw_59 ?_
          refine lv_aload_n hx hb dX6_draw_62 rfl (lv_at hl 1 rfl) ?_
          refine M_mg30 hC hinX6 hK hw (List.mem_of_getElem? (i := 4) rfl) dX6_draw_63 ?_
          refine lv_iload_n hx hb dX6_draw_66 rfl (lv_at hl 2 rfl) ?_
          obtain ⟨hi, h⟩ := h
          refine M_ml30 hC hK hw hi dX6_draw_67 ?_
          refine lv_icmp_ge (tgt := 78) hx hb dX6_draw_68 (by decide) (fun c44 => ?_) (fun c44 => ?_)
          · replace h := h.1 c44
            refine lv_aload_n hx hb dX6_draw_78 rfl (lv_at hl 1 rfl) ?_
            refine M_mg30 hC hinX6 hK hw (List.mem_of_getElem? (i := 4) rfl) dX6_draw_79 ?_
            refine lv_iload_n hx hb dX6_draw_82 rfl (lv_at hl 2 rfl) ?_
            obtain ⟨hi, h⟩ := h
            refine M_ml30 hC hK hw hi dX6_draw_83 ?_
            refine lv_topi (fun x18 ex18 => ?_)
            replace h := h x18 ex18
            refine lv_istore (lv' := [(5, .int x18), (4, .int r1), (0, .ref (q 0)), (1, .int a1), (2, .int a2), (3, .int a3)]) hx hb dX6_draw_84 hl (by decide) rfl (fun ls hl => ?_)
            refine lv_iconst (v := (0 : Int32)) hx hb dX6_draw_86 (by decide) ?_
            refine lv_istore (lv' := [(6, .int (0 : Int32)), (5, .int x18), (4, .int r1), (0, .ref (q 0)), (1, .int a1), (2, .int a2), (3, .int a3)]) hx hb dX6_draw_87 hl (by decide) rfl (fun ls hl => ?_)
            refine h (fun z => match z with | (x19, J20) => ∀ (H : Heap) (locs : List Loc) (ls : Array Slot), Wd g.1 A s.heap ((wM g q) (S16, J20)) H locs → lv_has ls 7 [(0, .ref (q 0)), (1, .int a1), (5, .int x18), (6, .int x19)] → W p l e (rmm 6 150) s m args below meth c H locs 0 0 Q (F0 m 89 ls [])) ?_ _ _ _ hw (lv_sub hl [3, 4, 1, 0] rfl)
            clear h hw hl
            rintro ⟨x19, J20⟩ h H locs ls hw hl
            refine lv_iload hx hb dX6_draw_89 (lv_at hl 3 rfl) ?_
            refine lv_iload hx hb dX6_draw_91 (lv_at hl 2 rfl) ?_
            refine lv_icmp_ge (tgt := 122) hx hb dX6_draw_93 (by decide) (fun c30 => ?_) (fun c30 => ?_)
            · replace h := h.1 c30
              refine lv_iload hx hb dX6_draw_122 (lv_at hl 2 rfl) ?_
              rw [hQ]
              exact mreti (w := (wM g q)) (u := (S16, J20)) hC hr hlocks hK hw h dX6_draw_124
            · replace h := h.2 c30
              refine lv_aload_n hx hb dX6_draw_96 rfl (lv_at hl 0 rfl) ?_
              refine M_mg31 hC hinX6 hK hw (List.mem_of_getElem? (i := 5) rfl) dX6_draw_97 ?_
              refine lv_bipush (v := (40 : Int32)) hx hb dX6_draw_100 (by decide) ?_
              refine lv_iload_n hx hb dX6_draw_102 rfl (lv_at hl 1 rfl) ?_
              refine lv_imul hx hb dX6_draw_103 ?_
              refine lv_iload hx hb dX6_draw_104 (lv_at hl 3 rfl) ?_
              refine lv_iadd hx hb dX6_draw_106 ?_
              refine lv_aload_n hx hb dX6_draw_107 rfl (lv_at hl 0 rfl) ?_
              refine M_mg9 hC hinX6 hK hw (List.mem_of_getElem? (i := 6) rfl) dX6_draw_108 ?_
              refine lv_iload hx hb dX6_draw_111 (lv_at hl 3 rfl) ?_
              obtain ⟨hi, h⟩ := h
              refine M_ml9 hC hK hw hi dX6_draw_113 ?_
              refine lv_i2l (v := (S16 10 x19.toNatClampNeg).toInt64) hx hb dX6_draw_114 rfl ?_
              obtain ⟨hi, h⟩ := h
              refine M_ms31 hC hK hw hi dX6_draw_115 (fun J27 H locs eJ27 hw => ?_)
              replace h := h J27 eJ27
              obtain ⟨x28, ex28⟩ : ∃ y : Int32, y = x19 + (1 : Int32) := ⟨_, rfl⟩
              refine lv_iinc (v := x28) (lv' := [(6, .int x28), (0, .ref (q 0)), (1, .int a1), (5, .int x18)]) hx hb dX6_draw_116 hl (k := 3) rfl (by rw [ex28]; rfl) (by decide) rfl (fun ls hl => ?_)
              replace h := h x28 ex28
              refine lv_goto (tgt := 89) hx hb dX6_draw_119 (by decide) ?_
              exact h _ _ _ hw (lv_sub hl [1, 2, 3, 0] rfl)
          · replace h := h.2 c44
            refine lv_aload_n hx hb dX6_draw_71 rfl (lv_at hl 1 rfl) ?_
            refine M_mg13 hC hinX6 hK hw (List.mem_of_getElem? (i := 3) rfl) dX6_draw_72 ?_
            refine lv_goto (tgt := 84) hx hb dX6_draw_75 (by decide) ?_
            refine lv_topi (fun x31 ex31 => ?_)
            replace h := h x31 ex31
            refine lv_istore (lv' := [(5, .int x31), (4, .int r1), (0, .ref (q 0)), (1, .int a1), (2, .int a2), (3, .int a3)]) hx hb dX6_draw_84 hl (by decide) rfl (fun ls hl => ?_)
            refine lv_iconst (v := (0 : Int32)) hx hb dX6_draw_86 (by decide) ?_
            refine lv_istore (lv' := [(6, .int (0 : Int32)), (5, .int x31), (4, .int r1), (0, .ref (q 0)), (1, .int a1), (2, .int a2), (3, .int a3)]) hx hb dX6_draw_87 hl (by decide) rfl (fun ls hl => ?_)
            refine h (fun z => match z with | (x32, J33) => ∀ (H : Heap) (locs : List Loc) (ls : Array Slot), Wd g.1 A s.heap ((wM g q) (S16, J33)) H locs → lv_has ls 7 [(0, .ref (q 0)), (1, .int a1), (5, .int x31), (6, .int x32)] → W p l e (rmm 6 150) s m args below meth c H locs 0 0 Q (F0 m 89 ls [])) ?_ _ _ _ hw (lv_sub hl [3, 4, 1, 0] rfl)
            clear h hw hl
            rintro ⟨x32, J33⟩ h H locs ls hw hl
            refine lv_iload hx hb dX6_draw_89 (lv_at hl 3 rfl) ?_
            refine lv_iload hx hb dX6_draw_91 (lv_at hl 2 rfl) ?_
            refine lv_icmp_ge (tgt := 122) hx hb dX6_draw_93 (by decide) (fun c43 => ?_) (fun c43 => ?_)
            · replace h := h.1 c43
              refine lv_iload hx hb dX6_draw_122 (lv_at hl 2 rfl) ?_
              rw [hQ]
              exact mreti (w := (wM g q)) (u := (S16, J33)) hC hr hlocks hK hw h dX6_draw_124
            · replace h := h.2 c43
              refine lv_aload_n hx hb dX6_draw_96 rfl (lv_at hl 0 rfl) ?_
              refine M_mg31 hC hinX6 hK hw (List.mem_of_getElem? (i := 5) rfl) dX6_draw_97 ?_
              refine lv_bipush (v := (40 : Int32)) hx hb dX6_draw_100 (by decide) ?_
              refine lv_iload_n hx hb dX6_draw_102 rfl (lv_at hl 1 rfl) ?_
              refine lv_imul hx hb dX6_draw_103 ?_
              refine lv_iload hx hb dX6_draw_104 (lv_at hl 3 rfl) ?_
              refine lv_iadd hx hb dX6_draw_106 ?_
              refine lv_aload_n hx hb dX6_draw_107 rfl (lv_at hl 0 rfl) ?_
              refine M_mg9 hC hinX6 hK hw (List.mem_of_getElem? (i := 6) rfl) dX6_draw_108 ?_
              refine lv_iload hx hb dX6_draw_111 (lv_at hl 3 rfl) ?_
              obtain ⟨hi, h⟩ := h
              refine M_ml9 hC hK hw hi dX6_draw_113 ?_
              refine lv_i2l (v := (S16 10 x32.toNatClampNeg).toInt64) hx hb dX6_draw_114 rfl ?_
              obtain ⟨hi, h⟩ := h
              refine M_ms31 hC hK hw hi dX6_draw_115 (fun J40 H locs eJ40 hw => ?_)
              replace h := h J40 eJ40
              obtain ⟨x41, ex41⟩ : ∃ y : Int32, y = x32 + (1 : Int32) := ⟨_, rfl⟩
              refine lv_iinc (v := x41) (lv' := [(6, .int x41), (0, .ref (q 0)), (1, .int a1), (5, .int x31)]) hx hb dX6_draw_116 hl (k := 3) rfl (by rw [ex41]; rfl) (by decide) rfl (fun ls hl => ?_)
              replace h := h x41 ex41
              refine lv_goto (tgt := 89) hx hb dX6_draw_119 (by decide) ?_
              exact h _ _ _ hw (lv_sub hl [1, 2, 3, 0] rfl)
        · replace h := h.2 c49
          refine lv_aload_n hx hb dX6_draw_51 rfl (lv_at hl 1 rfl) ?_
          refine lv_ldc (v := (-1000000004 : Int32)) hx hb hown (hts (.constant RX6 188 (-1000000004)) (List.mem_of_getElem? (i := 2) rfl)) dX6_draw_52 ?_
          refine mcalli (w1 := (wM g q)) (va_runV (As := [.int (-1000000004 : Int32)]) (rest := []) hC (kX6_finds l g  q H.size S16 J (-1000000004 : Int32) _ h) (cwV 1 hts gX6_draw_X6_finds rfl rfl rfl (by decide +kernel) ⟨Nat.le_of_ble_eq_true rfl, Nat.le_of_ble_eq_true rfl⟩) (mpreV E0_ok hK hE hA hw (Sub1.refl _) 0 rfl rfl) rfl rfl hl.1 rfl (lv_room (Nat.le_of_ble_eq_true rfl)) dX6_draw_54 ⟨Nat.zero_le _, Nat.zero_le _⟩) hA hw (Sub1.refl _) (fun _ => Sub.whole rfl) (fun r45 u46 H locs h hw => ?_)
          obtain ⟨S47, J48⟩ := u46
          obtain ⟨hu, h⟩ := h
          replace hu : J = J48 := hu.symm
          subst hu
          rw [hQ]
          exact mreti (w := (wM g q)) (u := (S47, J)) hC hr hlocks hK hw h dX6_draw_57
      · replace h := h.1 c50
        exact join7  _ _ _ h hw (lv_sub hl [1] rfl)
  · replace h := h.2 c56
    refine lv_aload_n hx hb dX6_draw_12 rfl (lv_at hl 1 rfl) ?_
    refine lv_iload hx hb dX6_draw_13 (lv_at hl 0 rfl) ?_
    refine mcalli (w1 := (wM g q)) (va_runV (As := [.int r1]) (rest := []) hC (kX6_finds l g  q H.size S J r1 _ h) (cwV 1 hts gX6_draw_X6_finds rfl rfl rfl (by decide +kernel) ⟨Nat.le_of_ble_eq_true rfl, Nat.le_of_ble_eq_true rfl⟩) (mpreV E0_ok hK hE hA hw (Sub1.refl _) 0 rfl rfl) rfl rfl hl.1 rfl (lv_room (Nat.le_of_ble_eq_true rfl)) dX6_draw_15 ⟨Nat.zero_le _, Nat.zero_le _⟩) hA hw (Sub1.refl _) (fun _ => Sub.whole rfl) (fun r52 u53 H locs h hw => ?_)
    obtain ⟨S54, J55⟩ := u53
    obtain ⟨hu, h⟩ := h
    replace hu : J = J55 := hu.symm
    subst hu
    rw [hQ]
    exact mreti (w := (wM g q)) (u := (S54, J)) hC hr hlocks hK hw h dX6_draw_18
def wX6_towards  (a1 : Int32) (a2 : Int32) (post : Int32 → Prop) : Prop :=
  wloop (σ := Int32 × Int32) (fun K3 z => match z with | (x1, x2) => (((4 : Int32) ≤ x2 → post x1) ∧ (¬ ((4 : Int32) ≤ x2) → wX6_beside a1 x2 (fun r9 => ((r9 = a2 → ∀ x13 : Int32, x13 = x2 + (1 : Int32) → K3 (x2, x13)) ∧ (¬ (r9 = a2) → ∀ x11 : Int32, x11 = x2 + (1 : Int32) → K3 (x1, x11))))))) ((-1 : Int32), (0 : Int32))
set_option maxRecDepth 100000 in
set_option maxHeartbeats 4000000 in
theorem kX6_towards (l : Launch) (g : Gl)   (sz : Nat)  (a1 : Int32) (a2 : Int32) (post : Int32 → Prop) (h : wX6_towards  a1 a2 post) : Met l yX6_towards wsX6_towards (rmm 1 21) (wPc g E0 (([] : va_W)) sz [.int a1, .int a2]) (va_Qi (fun (r : Int32) (u : Unit) => u = () ∧ post r) (wB g (fun _ : Unit => ([] : va_W)) (va_A (([] : va_W)) sz)) (va_A (([] : va_W)) sz)) 0 0 (va_A (([] : va_W)) sz) := by
  refine mstart (Qf := fun A => va_Qi (fun (r : Int32) (u : Unit) => u = () ∧ post r) (wB g (fun _ : Unit => ([] : va_W)) A) A) (by decide) rfl (Nat.le_of_ble_eq_true rfl) ?_
  intro p e s m args below meth c A Q H locs ls hC hr hlocks hname hQ hA hK hE hw hl
  have hC : CallFix p m c cX6_towards 4 s args wsX6_towards RX6 := hC
  obtain ⟨hx, hb, -, hown, hts⟩ := id hC
  have hl : lv_has ls 4 [(0, .int a1), (1, .int a2)] := hl
  rw [wX6_towards] at h
  refine lv_iconst (v := (-1 : Int32)) hx hb dX6_towards_0 (by decide) ?_
  refine lv_istore_n (lv' := [(2, .int (-1 : Int32)), (0, .int a1), (1, .int a2)]) hx hb dX6_towards_1 rfl hl (by decide) rfl (fun ls hl => ?_)
  refine lv_iconst (v := (0 : Int32)) hx hb dX6_towards_2 (by decide) ?_
  refine lv_istore_n (lv' := [(3, .int (0 : Int32)), (2, .int (-1 : Int32)), (0, .int a1), (1, .int a2)]) hx hb dX6_towards_3 rfl hl (by decide) rfl (fun ls hl => ?_)
  refine h (fun z => match z with | (x1, x2) => ∀ (H : Heap) (locs : List Loc) (ls : Array Slot), Wd g.1 A s.heap (([] : va_W)) H locs → lv_has ls 4 [(0, .int a1), (1, .int a2), (2, .int x1), (3, .int x2)] → W p l e (rmm 1 21) s m args below meth c H locs 0 0 Q (F0 m 4 ls [])) ?_ _ _ _ hw (lv_sub hl [2, 3, 1, 0] rfl)
  clear h hw hl
  rintro ⟨x1, x2⟩ h H locs ls hw hl
  refine lv_iload_n hx hb dX6_towards_4 rfl (lv_at hl 3 rfl) ?_
  refine lv_iconst (v := (4 : Int32)) hx hb dX6_towards_5 (by decide) ?_
  refine lv_icmp_ge (tgt := 30) hx hb dX6_towards_6 (by decide) (fun c16 => ?_) (fun c16 => ?_)
  · replace h := h.1 c16
    refine lv_iload_n hx hb dX6_towards_30 rfl (lv_at hl 2 rfl) ?_
    rw [hQ]
    exact mreti (w := (fun _ : Unit => ([] : va_W))) (u := ()) hC hr hlocks hK hw ⟨rfl, h⟩ dX6_towards_31
  · replace h := h.2 c16
    refine lv_iload_n hx hb dX6_towards_9 rfl (lv_at hl 0 rfl) ?_
    refine lv_iload_n hx hb dX6_towards_10 rfl (lv_at hl 3 rfl) ?_
    refine mcalli (w1 := (fun _ => ([] : va_W))) (wc := fun _ : Unit => ([] : va_W)) (u := ()) (va_runS (As := [.int a1, .int x2]) (rest := []) hC (kX6_beside l g  H.size a1 x2 _ h) (va_cwS 2 hts gX6_towards_X6_beside rfl rfl rfl (by decide +kernel) ⟨Nat.le_of_ble_eq_true rfl, Nat.le_of_ble_eq_true rfl⟩) (mpre E0_ok hK hE hA hw (Sub1.nil _)) rfl rfl hl.1 rfl (lv_room (Nat.le_of_ble_eq_true rfl)) dX6_towards_11 ⟨Nat.zero_le _, Nat.zero_le _⟩) hA hw (Sub1.nil _) (fun _ => Sub.nil _) (fun r9 u10 H locs h hw => ?_)
    obtain ⟨_, h⟩ := h
    refine lv_iload_n hx hb dX6_towards_14 rfl (lv_at hl 1 rfl) ?_
    refine lv_icmp_ne (tgt := 22) hx hb dX6_towards_15 (by decide) (fun c15 => ?_) (fun c15 => ?_)
    · replace h := h.2 c15
      refine lv_iload_n hx hb dX6_towards_22 rfl (lv_at hl 2 rfl) ?_
      refine lv_istore_n (lv' := [(2, .int x1), (0, .int a1), (1, .int a2), (3, .int x2)]) hx hb dX6_towards_23 rfl hl (by decide) rfl (fun ls hl => ?_)
      obtain ⟨x11, ex11⟩ : ∃ y : Int32, y = x2 + (1 : Int32) := ⟨_, rfl⟩
      refine lv_iinc (v := x11) (lv' := [(3, .int x11), (2, .int x1), (0, .int a1), (1, .int a2)]) hx hb dX6_towards_24 hl (k := 3) rfl (by rw [ex11]; rfl) (by decide) rfl (fun ls hl => ?_)
      replace h := h x11 ex11
      refine lv_goto (tgt := 4) hx hb dX6_towards_27 (by decide) ?_
      exact h _ _ _ hw (lv_sub hl [2, 3, 1, 0] rfl)
    · replace h := h.1 c15
      refine lv_iload_n hx hb dX6_towards_18 rfl (lv_at hl 3 rfl) ?_
      refine lv_goto (tgt := 23) hx hb dX6_towards_19 (by decide) ?_
      refine lv_istore_n (lv' := [(2, .int x2), (0, .int a1), (1, .int a2), (3, .int x2)]) hx hb dX6_towards_23 rfl hl (by decide) rfl (fun ls hl => ?_)
      obtain ⟨x13, ex13⟩ : ∃ y : Int32, y = x2 + (1 : Int32) := ⟨_, rfl⟩
      refine lv_iinc (v := x13) (lv' := [(3, .int x13), (2, .int x2), (0, .int a1), (1, .int a2)]) hx hb dX6_towards_24 hl (k := 3) rfl (by rw [ex13]; rfl) (by decide) rfl (fun ls hl => ?_)
      replace h := h x13 ex13
      refine lv_goto (tgt := 4) hx hb dX6_towards_27 (by decide) ?_
      exact h _ _ _ hw (lv_sub hl [2, 3, 1, 0] rfl)
def wX6_read (S : Bun) (J : Lon) (a1 : Int32) (a2 : Int32) (a3 : Int32) (post : Int32 → Bun → Prop) : Prop :=
  wX6_wrong S J a1 (fun r1 => ((r1 = 0 → wX6_isTeam S J a2 (fun r3 => wjoin (σ := Unit) (fun _ => wX6_finds S J (-1000000001 : Int32) (fun r8 S10 => post r8 S10)) (fun J5 => ((r3 = 0 → J5 ()) ∧ (¬ (r3 = 0) → wX6_isField S J a3 (fun r12 => ((r12 = 0 → J5 ()) ∧ (¬ (r12 = 0) → wX6_earth S J a3 (fun r14 => wloop (σ := Int32 × Int32 × Int32 × Int32 × Int32) (fun K21 z => match z with | (x16, x17, x18, x19, x20) => vp_in a1 4 ∧ (((S 31 a1.toNatClampNeg) ≤ x20 → wX6_its S J a3 (3 : Int32) (fun r27 => wjoin (σ := Int32) (fun y29 => ((x19 < 0 → post (100 : Int32) S) ∧ (¬ (x19 < 0) → ((x16 = 0 → ((y29 = 0 → post (100 : Int32) S) ∧ (¬ (y29 = 0) → post (0 : Int32) S))) ∧ (¬ (x16 = 0) → post (100 : Int32) S))))) (fun J30 => ((r27 < 0 → J30 (1 : Int32)) ∧ (¬ (r27 < 0) → wX6_its S J a3 (3 : Int32) (fun r36 => ((r36 = x19 → J30 (1 : Int32)) ∧ (¬ (r36 = x19) → J30 (0 : Int32))))))))) ∧ (¬ ((S 31 a1.toNatClampNeg) ≤ x20) → vp_in (((40 : Int32) * a1) + x20) 160 ∧ ∀ x40 : Int64, x40 = J 32 (((40 : Int32) * a1) + x20).toNatClampNeg → wX6_in x40 (0 : Int64) (15 : Int64) (fun r41 => wjoin (σ := Unit) (fun _ => post (x20 + (1 : Int32)) S) (fun J43 => ((r41 = 0 → J43 ()) ∧ (¬ (r41 = 0) → wX6_has x16 x40.toInt32 (fun r46 => ((r46 = 0 → J43 ()) ∧ (¬ (r46 = 0) → ∀ x48 : Int32, x48 = x40.toInt32 → wjoin (σ := Int32) (fun y49 => wjoin (σ := Int32) (fun y53 => ((y53 = 0 → post (x20 + (1 : Int32)) S) ∧ (¬ (y53 = 0) → wjoin (σ := Int32) (fun y57 => ∀ x61 : Int32, x61 = x16 &&& (((1 : Int32) <<< (x48 &&& 31)) ^^^ (-1 : Int32)) → ∀ x62 : Int32, x62 = x20 + (1 : Int32) → K21 (x61, y49, y57, x48, x62)) (fun J58 => ((x17 < 0 → J58 (0 : Int32)) ∧ (¬ (x17 < 0) → ((x17 = y49 → J58 (0 : Int32)) ∧ (¬ (x17 = y49) → J58 (1 : Int32))))))))) (fun J54 => ((x20 = 0 → wX6_its S J a3 (2 : Int32) (fun r71 => ((r71 < 0 → J54 (1 : Int32)) ∧ (¬ (r71 < 0) → wX6_its S J a3 (2 : Int32) (fun r73 => ((r73 = x48 → J54 (1 : Int32)) ∧ (¬ (r73 = x48) → J54 (0 : Int32)))))))) ∧ (¬ (x20 = 0) → ((y49 < 0 → J54 (0 : Int32)) ∧ (¬ (y49 < 0) → wX6_mayGo S J a2 a3 x48 x17 y49 x18 (fun r67 => ((r67 = 0 → J54 (0 : Int32)) ∧ (¬ (r67 = 0) → J54 (1 : Int32)))))))))) (fun J50 => ((x20 = 0 → J50 (-1 : Int32)) ∧ (¬ (x20 = 0) → wX6_towards x19 x48 (fun r78 => J50 r78)))))))))))))) (r14, (-1 : Int32), (0 : Int32), (-1 : Int32), (0 : Int32))))))))))) ∧ (¬ (r1 = 0) → wX6_finds S J r1 (fun r86 S88 => post r86 S88))))
set_option maxRecDepth 100000 in
set_option maxHeartbeats 4000000 in
theorem kX6_read (l : Launch) (g : Gl)  (q : Nat → Nat) (sz : Nat) (S : Bun) (J : Lon) (a1 : Int32) (a2 : Int32) (a3 : Int32) (post : Int32 → Bun → Prop) (h : wX6_read S J a1 a2 a3 post) : Met l yX6_read wsX6_read (rmm 3 75) (wPc g E0 ((wM g q) (S, J)) sz [.ref (q 0), .int a1, .int a2, .int a3]) (va_Qi (fun (r : Int32) (u : Bun × Lon) => u.2 = J ∧ post r u.1) (wB g (wM g q) (va_A ((wM g q) (S, J)) sz)) (va_A ((wM g q) (S, J)) sz)) 0 0 (va_A ((wM g q) (S, J)) sz) := by
  refine mstart (Qf := fun A => va_Qi (fun (r : Int32) (u : Bun × Lon) => u.2 = J ∧ post r u.1) (wB g (wM g q) A) A) (by decide) rfl (Nat.le_of_ble_eq_true rfl) ?_
  intro p e s m args below meth c A Q H locs ls hC hr hlocks hname hQ hA hK hE hw hl
  have hC : CallFix p m c cX6_read 15 s args wsX6_read RX6 := hC
  obtain ⟨hx, hb, -, hown, hts⟩ := id hC
  have hl : lv_has ls 15 [(0, .ref (q 0)), (1, .int a1), (2, .int a2), (3, .int a3)] := hl
  rw [wX6_read] at h
  have hinX6 : ∀ w ∈ wsX60, w ∈ wsX6_read := fun w hw9 => List.mem_cons_of_mem _ (List.mem_append_right _ hw9)
  refine lv_aload_n hx hb dX6_read_0 rfl (lv_at hl 0 rfl) ?_
  refine lv_iload_n hx hb dX6_read_1 rfl (lv_at hl 1 rfl) ?_
  refine mcalli (w1 := (wM g q)) (va_runV (As := [.int a1]) (rest := []) hC (kX6_wrong l g  q H.size S J a1 _ h) (cwV 1 hts gX6_read_X6_wrong rfl rfl rfl (by decide +kernel) ⟨Nat.le_of_ble_eq_true rfl, Nat.le_of_ble_eq_true rfl⟩) (mpreV E0_ok hK hE hA hw (Sub1.refl _) 0 rfl rfl) rfl rfl hl.1 rfl (lv_room (Nat.le_of_ble_eq_true rfl)) dX6_read_2 ⟨Nat.zero_le _, Nat.zero_le _⟩) hA hw (Sub1.refl _) (fun _ => Sub.whole rfl) (fun r1 u2 H locs h hw => ?_)
  obtain ⟨hu, h⟩ := h
  replace hu := hu.symm
  subst hu
  refine lv_istore (lv' := [(4, .int r1), (0, .ref (q 0)), (1, .int a1), (2, .int a2), (3, .int a3)]) hx hb dX6_read_5 hl (by decide) rfl (fun ls hl => ?_)
  refine lv_iload hx hb dX6_read_7 (lv_at hl 0 rfl) ?_
  refine lv_if_eq (tgt := 19) hx hb dX6_read_9 (by decide) (fun c90 => ?_) (fun c90 => ?_)
  · replace h := h.1 c90
    refine lv_aload_n hx hb dX6_read_19 rfl (lv_at hl 1 rfl) ?_
    refine lv_iload_n hx hb dX6_read_20 rfl (lv_at hl 3 rfl) ?_
    refine mcalli (w1 := (wM g q)) (va_runV (As := [.int a2]) (rest := []) hC (kX6_isTeam l g  q H.size S J a2 _ h) (cwV 1 hts gX6_read_X6_isTeam rfl rfl rfl (by decide +kernel) ⟨Nat.le_of_ble_eq_true rfl, Nat.le_of_ble_eq_true rfl⟩) (mpreV E0_ok hK hE hA hw (Sub1.refl _) 0 rfl rfl) rfl rfl hl.1 rfl (lv_room (Nat.le_of_ble_eq_true rfl)) dX6_read_21 ⟨Nat.zero_le _, Nat.zero_le _⟩) hA hw (Sub1.refl _) (fun _ => Sub.whole rfl) (fun r3 u4 H locs h hw => ?_)
    obtain ⟨hu, h⟩ := h
    replace hu := hu.symm
    subst hu
    obtain ⟨J5, hJ6, h⟩ := h
    have join7 : ∀  (H : Heap) (locs : List Loc) (ls : Array Slot), J5 () → Wd g.1 A s.heap ((wM g q) (S, J)) H locs → lv_has ls 15 [(0, .ref (q 0))] → W p l e (rmm 3 75) s m args below meth c H locs 0 0 Q (F0 m 35 ls []) := by
      intro  H locs ls h hw hl
      replace h := hJ6 () h
      refine lv_aload_n hx hb dX6_read_35 rfl (lv_at hl 0 rfl) ?_
      refine lv_ldc (v := (-1000000001 : Int32)) hx hb hown (hts (.constant RX6 68 (-1000000001)) (List.mem_of_getElem? (i := 1) rfl)) dX6_read_36 ?_
      refine mcalli (w1 := (wM g q)) (va_runV (As := [.int (-1000000001 : Int32)]) (rest := []) hC (kX6_finds l g  q H.size S J (-1000000001 : Int32) _ h) (cwV 1 hts gX6_read_X6_finds rfl rfl rfl (by decide +kernel) ⟨Nat.le_of_ble_eq_true rfl, Nat.le_of_ble_eq_true rfl⟩) (mpreV E0_ok hK hE hA hw (Sub1.refl _) 0 rfl rfl) rfl rfl hl.1 rfl (lv_room (Nat.le_of_ble_eq_true rfl)) dX6_read_38 ⟨Nat.zero_le _, Nat.zero_le _⟩) hA hw (Sub1.refl _) (fun _ => Sub.whole rfl) (fun r8 u9 H locs h hw => ?_)
      obtain ⟨S10, J11⟩ := u9
      obtain ⟨hu, h⟩ := h
      replace hu : J = J11 := hu.symm
      subst hu
      rw [hQ]
      exact mreti (w := (wM g q)) (u := (S10, J)) hC hr hlocks hK hw ⟨rfl, h⟩ dX6_read_41
    refine lv_if_eq (tgt := 35) hx hb dX6_read_24 (by decide) (fun c85 => ?_) (fun c85 => ?_)
    · replace h := h.1 c85
      exact join7  _ _ _ h hw (lv_sub hl [1] rfl)
    · replace h := h.2 c85
      refine lv_aload_n hx hb dX6_read_27 rfl (lv_at hl 1 rfl) ?_
      refine lv_iload_n hx hb dX6_read_28 rfl (lv_at hl 4 rfl) ?_
      refine mcalli (w1 := (wM g q)) (va_runV (As := [.int a3]) (rest := []) hC (kX6_isField l g  q H.size S J a3 _ h) (cwV 1 hts gX6_read_X6_isField rfl rfl rfl (by decide +kernel) ⟨Nat.le_of_ble_eq_true rfl, Nat.le_of_ble_eq_true rfl⟩) (mpreV E0_ok hK hE hA hw (Sub1.refl _) 0 rfl rfl) rfl rfl hl.1 rfl (lv_room (Nat.le_of_ble_eq_true rfl)) dX6_read_29 ⟨Nat.zero_le _, Nat.zero_le _⟩) hA hw (Sub1.refl _) (fun _ => Sub.whole rfl) (fun r12 u13 H locs h hw => ?_)
      obtain ⟨hu, h⟩ := h
      replace hu := hu.symm
      subst hu
      refine lv_if_ne (tgt := 42) hx hb dX6_read_32 (by decide) (fun c84 => ?_) (fun c84 => ?_)
      · replace h := h.2 c84
        refine lv_aload_n hx hb dX6_read_42 rfl (lv_at hl 1 rfl) ?_
        refine lv_iload_n hx hb dX6_read_43 rfl (lv_at hl 4 rfl) ?_
        refine mcalli (w1 := (wM g q)) (va_runV (As := [.int a3]) (rest := []) hC (kX6_earth l g  q H.size S J a3 _ h) (cwV 1 hts gX6_read_X6_earth rfl rfl rfl (by decide +kernel) ⟨Nat.le_of_ble_eq_true rfl, Nat.le_of_ble_eq_true rfl⟩) (mpreV E0_ok hK hE hA hw (Sub1.refl _) 0 rfl rfl) rfl rfl hl.1 rfl (lv_room (Nat.le_of_ble_eq_true rfl)) dX6_read_44 ⟨Nat.zero_le _, Nat.zero_le _⟩) hA hw (Sub1.refl _) (fun _ => Sub.whole rfl) (fun r14 u15 H locs h hw => ?_)
        obtain ⟨hu, h⟩ := h
        replace hu := hu.symm
        subst hu
        refine lv_istore (lv' := [(5, .int r14), (4, .int r1), (0, .ref (q 0)), (1, .int a1), (2, .int a2), (3, .int a3)]) hx hb dX6_read_47 hl (by decide) rfl (fun ls hl => ?_)
        refine lv_iconst (v := (-1 : Int32)) hx hb dX6_read_49 (by decide) ?_
        refine lv_istore (lv' := [(6, .int (-1 : Int32)), (5, .int r14), (4, .int r1), (0, .ref (q 0)), (1, .int a1), (2, .int a2), (3, .int a3)]) hx hb dX6_read_50 hl (by decide) rfl (fun ls hl => ?_)
        refine lv_iconst (v := (0 : Int32)) hx hb dX6_read_52 (by decide) ?_
        refine lv_istore (lv' := [(7, .int (0 : Int32)), (6, .int (-1 : Int32)), (5, .int r14), (4, .int r1), (0, .ref (q 0)), (1, .int a1), (2, .int a2), (3, .int a3)]) hx hb dX6_read_53 hl (by decide) rfl (fun ls hl => ?_)
        refine lv_iconst (v := (-1 : Int32)) hx hb dX6_read_55 (by decide) ?_
        refine lv_istore (lv' := [(8, .int (-1 : Int32)), (7, .int (0 : Int32)), (6, .int (-1 : Int32)), (5, .int r14), (4, .int r1), (0, .ref (q 0)), (1, .int a1), (2, .int a2), (3, .int a3)]) hx hb dX6_read_56 hl (by decide) rfl (fun ls hl => ?_)
        refine lv_iconst (v := (0 : Int32)) hx hb dX6_read_58 (by decide) ?_
        refine lv_istore (lv' := [(9, .int (0 : Int32)), (8, .int (-1 : Int32)), (7, .int (0 : Int32)), (6, .int (-1 : Int32)), (5, .int r14), (4, .int r1), (0, .ref (q 0)), (1, .int a1), (2, .int a2), (3, .int a3)]) hx hb dX6_read_59 hl (by decide) rfl (fun ls hl => ?_)
        refine h (fun z => match z with | (x16, x17, x18, x19, x20) => ∀ (H : Heap) (locs : List Loc) (ls : Array Slot), Wd g.1 A s.heap ((wM g q) (S, J)) H locs → lv_has ls 15 [(0, .ref (q 0)), (1, .int a1), (2, .int a2), (3, .int a3), (5, .int x16), (6, .int x17), (7, .int x18), (8, .int x19), (9, .int x20)] → W p l e (rmm 3 75) s m args below meth c H locs 0 0 Q (F0 m 61 ls [])) ?_ _ _ _ hw (lv_sub hl [6, 7, 8, 9, 4, 3, 2, 1, 0] rfl)
        clear h hw hl
        rintro ⟨x16, x17, x18, x19, x20⟩ h H locs ls hw hl
        refine lv_iload hx hb dX6_read_61 (lv_at hl 8 rfl) ?_
        refine lv_aload_n hx hb dX6_read_63 rfl (lv_at hl 0 rfl) ?_
        refine M_mg30 hC hinX6 hK hw (List.mem_of_getElem? (i := 2) rfl) dX6_read_64 ?_
        refine lv_iload_n hx hb dX6_read_67 rfl (lv_at hl 1 rfl) ?_
        obtain ⟨hi, h⟩ := h
        refine M_ml30 hC hK hw hi dX6_read_68 ?_
        refine lv_icmp_ge (tgt := 253) hx hb dX6_read_69 (by decide) (fun c83 => ?_) (fun c83 => ?_)
        · replace h := h.1 c83
          refine lv_aload_n hx hb dX6_read_253 rfl (lv_at hl 0 rfl) ?_
          refine lv_iload_n hx hb dX6_read_254 rfl (lv_at hl 3 rfl) ?_
          refine lv_iconst (v := (3 : Int32)) hx hb dX6_read_255 (by decide) ?_
          refine mcalli (w1 := (wM g q)) (va_runV (As := [.int a3, .int (3 : Int32)]) (rest := []) hC (kX6_its l g  q H.size S J a3 (3 : Int32) _ h) (cwV 2 hts gX6_read_X6_its rfl rfl rfl (by decide +kernel) ⟨Nat.le_of_ble_eq_true rfl, Nat.le_of_ble_eq_true rfl⟩) (mpreV E0_ok hK hE hA hw (Sub1.refl _) 0 rfl rfl) rfl rfl hl.1 rfl (lv_room (Nat.le_of_ble_eq_true rfl)) dX6_read_256 ⟨Nat.zero_le _, Nat.zero_le _⟩) hA hw (Sub1.refl _) (fun _ => Sub.whole rfl) (fun r27 u28 H locs h hw => ?_)
          obtain ⟨hu, h⟩ := h
          replace hu := hu.symm
          subst hu
          obtain ⟨J30, hJ31, h⟩ := h
          have join32 : ∀ (y29 : Int32) (H : Heap) (locs : List Loc) (ls : Array Slot), J30 y29 → Wd g.1 A s.heap ((wM g q) (S, J)) H locs → lv_has ls 15 [(5, .int x16), (8, .int x19)] → W p l e (rmm 3 75) s m args below meth c H locs 0 0 Q (F0 m 278 ls [.int y29]) := by
            intro y29 H locs ls h hw hl
            replace h := hJ31 y29 h
            refine lv_istore (lv' := [(9, .int y29), (5, .int x16), (8, .int x19)]) hx hb dX6_read_278 hl (by decide) rfl (fun ls hl => ?_)
            refine lv_iload hx hb dX6_read_280 (lv_at hl 2 rfl) ?_
            refine lv_if_lt (tgt := 299) hx hb dX6_read_282 (by decide) (fun c35 => ?_) (fun c35 => ?_)
            · replace h := h.1 c35
              refine lv_bipush (v := (100 : Int32)) hx hb dX6_read_299 (by decide) ?_
              rw [hQ]
              exact mreti (w := (wM g q)) (u := (S, J)) hC hr hlocks hK hw ⟨rfl, h⟩ dX6_read_301
            · replace h := h.2 c35
              refine lv_iload hx hb dX6_read_285 (lv_at hl 1 rfl) ?_
              refine lv_if_ne (tgt := 299) hx hb dX6_read_287 (by decide) (fun c34 => ?_) (fun c34 => ?_)
              · replace h := h.2 c34
                refine lv_bipush (v := (100 : Int32)) hx hb dX6_read_299 (by decide) ?_
                rw [hQ]
                exact mreti (w := (wM g q)) (u := (S, J)) hC hr hlocks hK hw ⟨rfl, h⟩ dX6_read_301
              · replace h := h.1 c34
                refine lv_iload hx hb dX6_read_290 (lv_at hl 0 rfl) ?_
                refine lv_if_eq (tgt := 299) hx hb dX6_read_292 (by decide) (fun c33 => ?_) (fun c33 => ?_)
                · replace h := h.1 c33
                  refine lv_bipush (v := (100 : Int32)) hx hb dX6_read_299 (by decide) ?_
                  rw [hQ]
                  exact mreti (w := (wM g q)) (u := (S, J)) hC hr hlocks hK hw ⟨rfl, h⟩ dX6_read_301
                · replace h := h.2 c33
                  refine lv_iconst (v := (0 : Int32)) hx hb dX6_read_295 (by decide) ?_
                  refine lv_goto (tgt := 301) hx hb dX6_read_296 (by decide) ?_
                  rw [hQ]
                  exact mreti (w := (wM g q)) (u := (S, J)) hC hr hlocks hK hw ⟨rfl, h⟩ dX6_read_301
          refine lv_if_lt (tgt := 273) hx hb dX6_read_259 (by decide) (fun c39 => ?_) (fun c39 => ?_)
          · replace h := h.1 c39
            refine lv_iconst (v := (1 : Int32)) hx hb dX6_read_273 (by decide) ?_
            refine lv_goto (tgt := 278) hx hb dX6_read_274 (by decide) ?_
            exact join32 (1 : Int32) _ _ _ h hw (lv_sub hl [4, 7] rfl)
          · replace h := h.2 c39
            refine lv_aload_n hx hb dX6_read_262 rfl (lv_at hl 0 rfl) ?_
            refine lv_iload_n hx hb dX6_read_263 rfl (lv_at hl 3 rfl) ?_
            refine lv_iconst (v := (3 : Int32)) hx hb dX6_read_264 (by decide) ?_
            refine mcalli (w1 := (wM g q)) (va_runV (As := [.int a3, .int (3 : Int32)]) (rest := []) hC (kX6_its l g  q H.size S J a3 (3 : Int32) _ h) (cwV 2 hts gX6_read_X6_its rfl rfl rfl (by decide +kernel) ⟨Nat.le_of_ble_eq_true rfl, Nat.le_of_ble_eq_true rfl⟩) (mpreV E0_ok hK hE hA hw (Sub1.refl _) 0 rfl rfl) rfl rfl hl.1 rfl (lv_room (Nat.le_of_ble_eq_true rfl)) dX6_read_265 ⟨Nat.zero_le _, Nat.zero_le _⟩) hA hw (Sub1.refl _) (fun _ => Sub.whole rfl) (fun r36 u37 H locs h hw => ?_)
            obtain ⟨hu, h⟩ := h
            replace hu := hu.symm
            subst hu
            refine lv_iload hx hb dX6_read_268 (lv_at hl 7 rfl) ?_
            refine lv_icmp_ne (tgt := 277) hx hb dX6_read_270 (by decide) (fun c38 => ?_) (fun c38 => ?_)
            · replace h := h.2 c38
              refine lv_iconst (v := (0 : Int32)) hx hb dX6_read_277 (by decide) ?_
              exact join32 (0 : Int32) _ _ _ h hw (lv_sub hl [4, 7] rfl)
            · replace h := h.1 c38
              refine lv_iconst (v := (1 : Int32)) hx hb dX6_read_273 (by decide) ?_
              refine lv_goto (tgt := 278) hx hb dX6_read_274 (by decide) ?_
              exact join32 (1 : Int32) _ _ _ h hw (lv_sub hl [4, 7] rfl)
        · replace h := h.2 c83
          refine lv_aload_n hx hb dX6_read_72 rfl (lv_at hl 0 rfl) ?_
          refine M_mg31 hC hinX6 hK hw (List.mem_of_getElem? (i := 3) rfl) dX6_read_73 ?_
          refine lv_bipush (v := (40 : Int32)) hx hb dX6_read_76 (by decide) ?_
          refine lv_iload_n hx hb dX6_read_78 rfl (lv_at hl 1 rfl) ?_
          refine lv_imul hx hb dX6_read_79 ?_
          refine lv_iload hx hb dX6_read_80 (lv_at hl 8 rfl) ?_
          refine lv_iadd hx hb dX6_read_82 ?_
          obtain ⟨hi, h⟩ := h
          refine M_ml31 hC hK hw hi dX6_read_83 ?_
          refine lv_topl (fun x40 ex40 => ?_)
          replace h := h x40 ex40
          refine lv_lstore (lv' := [(10, .long x40), (0, .ref (q 0)), (1, .int a1), (2, .int a2), (3, .int a3), (5, .int x16), (6, .int x17), (7, .int x18), (8, .int x19), (9, .int x20)]) hx hb dX6_read_84 hl (by decide) rfl (fun ls hl => ?_)
          refine lv_lload hx hb dX6_read_86 (lv_at hl 0 rfl) ?_
          refine lv_lconst (v := (0 : Int64)) hx hb dX6_read_88 (by decide) ?_
          refine lv_ldc2 (v := (15 : Int64)) hx hb hown (hts (.constantLong RX6 140 (15)) (List.mem_of_getElem? (i := 4) rfl)) dX6_read_89 ?_
          refine mcalli (w1 := (fun _ => (wM g q) (S, J))) (wc := fun _ : Unit => ([] : va_W)) (u := ()) (va_runS (As := [.long x40, .long (0 : Int64), .long (15 : Int64)]) (rest := []) hC (kX6_in l g  H.size x40 (0 : Int64) (15 : Int64) _ h) (va_cwS 3 hts gX6_read_X6_in rfl rfl rfl (by decide +kernel) ⟨Nat.le_of_ble_eq_true rfl, Nat.le_of_ble_eq_true rfl⟩) (mpre E0_ok hK hE hA hw (Sub1.nil _)) rfl rfl hl.1 rfl (lv_room (Nat.le_of_ble_eq_true rfl)) dX6_read_92 ⟨Nat.zero_le _, Nat.zero_le _⟩) hA hw (Sub1.nil _) (fun _ => Sub.nil _) (fun r41 u42 H locs h hw => ?_)
          obtain ⟨_, h⟩ := h
          obtain ⟨J43, hJ44, h⟩ := h
          have join45 : ∀  (H : Heap) (locs : List Loc) (ls : Array Slot), J43 () → Wd g.1 A s.heap ((wM g q) (S, J)) H locs → lv_has ls 15 [(9, .int x20)] → W p l e (rmm 3 75) s m args below meth c H locs 0 0 Q (F0 m 109 ls []) := by
            intro  H locs ls h hw hl
            replace h := hJ44 () h
            refine lv_iload hx hb dX6_read_109 (lv_at hl 0 rfl) ?_
            refine lv_iconst (v := (1 : Int32)) hx hb dX6_read_111 (by decide) ?_
            refine lv_iadd hx hb dX6_read_112 ?_
            rw [hQ]
            exact mreti (w := (wM g q)) (u := (S, J)) hC hr hlocks hK hw ⟨rfl, h⟩ dX6_read_113
          refine lv_if_eq (tgt := 109) hx hb dX6_read_95 (by decide) (fun c82 => ?_) (fun c82 => ?_)
          · replace h := h.1 c82
            exact join45  _ _ _ h hw (lv_sub hl [9] rfl)
          · replace h := h.2 c82
            refine lv_iload hx hb dX6_read_98 (lv_at hl 5 rfl) ?_
            refine lv_lload hx hb dX6_read_100 (lv_at hl 0 rfl) ?_
            refine lv_l2i (v := x40.toInt32) hx hb dX6_read_102 rfl ?_
            refine mcalli (w1 := (fun _ => (wM g q) (S, J))) (wc := fun _ : Unit => ([] : va_W)) (u := ()) (va_runS (As := [.int x16, .int x40.toInt32]) (rest := []) hC (kX6_has l g  H.size x16 x40.toInt32 _ h) (va_cwS 2 hts gX6_read_X6_has rfl rfl rfl (by decide +kernel) ⟨Nat.le_of_ble_eq_true rfl, Nat.le_of_ble_eq_true rfl⟩) (mpre E0_ok hK hE hA hw (Sub1.nil _)) rfl rfl hl.1 rfl (lv_room (Nat.le_of_ble_eq_true rfl)) dX6_read_103 ⟨Nat.zero_le _, Nat.zero_le _⟩) hA hw (Sub1.nil _) (fun _ => Sub.nil _) (fun r46 u47 H locs h hw => ?_)
            obtain ⟨_, h⟩ := h
            refine lv_if_ne (tgt := 114) hx hb dX6_read_106 (by decide) (fun c81 => ?_) (fun c81 => ?_)
            · replace h := h.2 c81
              refine lv_lload hx hb dX6_read_114 (lv_at hl 0 rfl) ?_
              refine lv_l2i (v := x40.toInt32) hx hb dX6_read_116 rfl ?_
              refine lv_topi (fun x48 ex48 => ?_)
              replace h := h x48 ex48
              refine lv_istore (lv' := [(12, .int x48), (10, .long x40), (0, .ref (q 0)), (1, .int a1), (2, .int a2), (3, .int a3), (5, .int x16), (6, .int x17), (7, .int x18), (8, .int x19), (9, .int x20)]) hx hb dX6_read_117 hl (by decide) rfl (fun ls hl => ?_)
              refine lv_iload hx hb dX6_read_119 (lv_at hl 10 rfl) ?_
              obtain ⟨J50, hJ51, h⟩ := h
              have join52 : ∀ (y49 : Int32) (H : Heap) (locs : List Loc) (ls : Array Slot), J50 y49 → Wd g.1 A s.heap ((wM g q) (S, J)) H locs → lv_has ls 15 [(0, .ref (q 0)), (1, .int a1), (2, .int a2), (3, .int a3), (5, .int x16), (6, .int x17), (7, .int x18), (9, .int x20), (12, .int x48)] → W p l e (rmm 3 75) s m args below meth c H locs 0 0 Q (F0 m 135 ls [.int y49]) := by
                intro y49 H locs ls h hw hl
                replace h := hJ51 y49 h
                refine lv_istore (lv' := [(13, .int y49), (0, .ref (q 0)), (1, .int a1), (2, .int a2), (3, .int a3), (5, .int x16), (6, .int x17), (7, .int x18), (9, .int x20), (12, .int x48)]) hx hb dX6_read_135 hl (by decide) rfl (fun ls hl => ?_)
                refine lv_iload hx hb dX6_read_137 (lv_at hl 8 rfl) ?_
                obtain ⟨J54, hJ55, h⟩ := h
                have join56 : ∀ (y53 : Int32) (H : Heap) (locs : List Loc) (ls : Array Slot), J54 y53 → Wd g.1 A s.heap ((wM g q) (S, J)) H locs → lv_has ls 15 [(0, .ref (q 0)), (1, .int a1), (2, .int a2), (3, .int a3), (5, .int x16), (6, .int x17), (9, .int x20), (12, .int x48), (13, .int y49)] → W p l e (rmm 3 75) s m args below meth c H locs 0 0 Q (F0 m 197 ls [.int y53]) := by
                  intro y53 H locs ls h hw hl
                  replace h := hJ55 y53 h
                  refine lv_istore (lv' := [(14, .int y53), (0, .ref (q 0)), (1, .int a1), (2, .int a2), (3, .int a3), (5, .int x16), (6, .int x17), (9, .int x20), (12, .int x48), (13, .int y49)]) hx hb dX6_read_197 hl (by decide) rfl (fun ls hl => ?_)
                  refine lv_iload hx hb dX6_read_199 (lv_at hl 0 rfl) ?_
                  refine lv_if_ne (tgt := 209) hx hb dX6_read_201 (by decide) (fun c66 => ?_) (fun c66 => ?_)
                  · replace h := h.2 c66
                    refine lv_iload hx hb dX6_read_209 (lv_at hl 6 rfl) ?_
                    obtain ⟨J58, hJ59, h⟩ := h
                    have join60 : ∀ (y57 : Int32) (H : Heap) (locs : List Loc) (ls : Array Slot), J58 y57 → Wd g.1 A s.heap ((wM g q) (S, J)) H locs → lv_has ls 15 [(0, .ref (q 0)), (1, .int a1), (2, .int a2), (3, .int a3), (5, .int x16), (9, .int x20), (12, .int x48), (13, .int y49)] → W p l e (rmm 3 75) s m args below meth c H locs 0 0 Q (F0 m 226 ls [.int y57]) := by
                      intro y57 H locs ls h hw hl
                      replace h := hJ59 y57 h
                      refine lv_istore (lv' := [(7, .int y57), (0, .ref (q 0)), (1, .int a1), (2, .int a2), (3, .int a3), (5, .int x16), (9, .int x20), (12, .int x48), (13, .int y49)]) hx hb dX6_read_226 hl (by decide) rfl (fun ls hl => ?_)
                      refine lv_iload hx hb dX6_read_228 (lv_at hl 8 rfl) ?_
                      refine lv_istore (lv' := [(6, .int y49), (7, .int y57), (0, .ref (q 0)), (1, .int a1), (2, .int a2), (3, .int a3), (5, .int x16), (9, .int x20), (12, .int x48), (13, .int y49)]) hx hb dX6_read_230 hl (by decide) rfl (fun ls hl => ?_)
                      refine lv_iload hx hb dX6_read_232 (lv_at hl 6 rfl) ?_
                      refine lv_iconst (v := (1 : Int32)) hx hb dX6_read_234 (by decide) ?_
                      refine lv_iload hx hb dX6_read_235 (lv_at hl 8 rfl) ?_
                      refine lv_ishl hx hb dX6_read_237 ?_
                      refine lv_iconst (v := (-1 : Int32)) hx hb dX6_read_238 (by decide) ?_
                      refine lv_ixor hx hb dX6_read_239 ?_
                      refine lv_iand hx hb dX6_read_240 ?_
                      refine lv_topi (fun x61 ex61 => ?_)
                      replace h := h x61 ex61
                      refine lv_istore (lv' := [(5, .int x61), (6, .int y49), (7, .int y57), (0, .ref (q 0)), (1, .int a1), (2, .int a2), (3, .int a3), (9, .int x20), (12, .int x48), (13, .int y49)]) hx hb dX6_read_241 hl (by decide) rfl (fun ls hl => ?_)
                      refine lv_iload hx hb dX6_read_243 (lv_at hl 8 rfl) ?_
                      refine lv_istore (lv' := [(8, .int x48), (5, .int x61), (6, .int y49), (7, .int y57), (0, .ref (q 0)), (1, .int a1), (2, .int a2), (3, .int a3), (9, .int x20), (12, .int x48), (13, .int y49)]) hx hb dX6_read_245 hl (by decide) rfl (fun ls hl => ?_)
                      obtain ⟨x62, ex62⟩ : ∃ y : Int32, y = x20 + (1 : Int32) := ⟨_, rfl⟩
                      refine lv_iinc (v := x62) (lv' := [(9, .int x62), (8, .int x48), (5, .int x61), (6, .int y49), (7, .int y57), (0, .ref (q 0)), (1, .int a1), (2, .int a2), (3, .int a3), (12, .int x48), (13, .int y49)]) hx hb dX6_read_247 hl (k := 8) rfl (by rw [ex62]; rfl) (by decide) rfl (fun ls hl => ?_)
                      replace h := h x62 ex62
                      refine lv_goto (tgt := 61) hx hb dX6_read_250 (by decide) ?_
                      exact h _ _ _ hw (lv_sub hl [5, 6, 7, 8, 2, 3, 4, 1, 0] rfl)
                    refine lv_if_lt (tgt := 225) hx hb dX6_read_211 (by decide) (fun c65 => ?_) (fun c65 => ?_)
                    · replace h := h.1 c65
                      refine lv_iconst (v := (0 : Int32)) hx hb dX6_read_225 (by decide) ?_
                      exact join60 (0 : Int32) _ _ _ h hw (lv_sub hl [1, 2, 3, 4, 5, 7, 8, 9] rfl)
                    · replace h := h.2 c65
                      refine lv_iload hx hb dX6_read_214 (lv_at hl 6 rfl) ?_
                      refine lv_iload hx hb dX6_read_216 (lv_at hl 9 rfl) ?_
                      refine lv_icmp_eq (tgt := 225) hx hb dX6_read_218 (by decide) (fun c64 => ?_) (fun c64 => ?_)
                      · replace h := h.1 c64
                        refine lv_iconst (v := (0 : Int32)) hx hb dX6_read_225 (by decide) ?_
                        exact join60 (0 : Int32) _ _ _ h hw (lv_sub hl [1, 2, 3, 4, 5, 7, 8, 9] rfl)
                      · replace h := h.2 c64
                        refine lv_iconst (v := (1 : Int32)) hx hb dX6_read_221 (by decide) ?_
                        refine lv_goto (tgt := 226) hx hb dX6_read_222 (by decide) ?_
                        exact join60 (1 : Int32) _ _ _ h hw (lv_sub hl [1, 2, 3, 4, 5, 7, 8, 9] rfl)
                  · replace h := h.1 c66
                    refine lv_iload hx hb dX6_read_204 (lv_at hl 7 rfl) ?_
                    refine lv_iconst (v := (1 : Int32)) hx hb dX6_read_206 (by decide) ?_
                    refine lv_iadd hx hb dX6_read_207 ?_
                    rw [hQ]
                    exact mreti (w := (wM g q)) (u := (S, J)) hC hr hlocks hK hw ⟨rfl, h⟩ dX6_read_208
                refine lv_if_ne (tgt := 170) hx hb dX6_read_139 (by decide) (fun c77 => ?_) (fun c77 => ?_)
                · replace h := h.2 c77
                  refine lv_iload hx hb dX6_read_170 (lv_at hl 0 rfl) ?_
                  refine lv_if_lt (tgt := 196) hx hb dX6_read_172 (by decide) (fun c70 => ?_) (fun c70 => ?_)
                  · replace h := h.1 c70
                    refine lv_iconst (v := (0 : Int32)) hx hb dX6_read_196 (by decide) ?_
                    exact join56 (0 : Int32) _ _ _ h hw (lv_sub hl [1, 2, 3, 4, 5, 6, 8, 9, 0] rfl)
                  · replace h := h.2 c70
                    refine lv_aload_n hx hb dX6_read_175 rfl (lv_at hl 1 rfl) ?_
                    refine lv_iload_n hx hb dX6_read_176 rfl (lv_at hl 3 rfl) ?_
                    refine lv_iload_n hx hb dX6_read_177 rfl (lv_at hl 4 rfl) ?_
                    refine lv_iload hx hb dX6_read_178 (lv_at hl 9 rfl) ?_
                    refine lv_iload hx hb dX6_read_180 (lv_at hl 6 rfl) ?_
                    refine lv_iload hx hb dX6_read_182 (lv_at hl 0 rfl) ?_
                    refine lv_iload hx hb dX6_read_184 (lv_at hl 7 rfl) ?_
                    refine mcalli (w1 := (wM g q)) (va_runV (As := [.int a2, .int a3, .int x48, .int x17, .int y49, .int x18]) (rest := []) hC (kX6_mayGo l g  q H.size S J a2 a3 x48 x17 y49 x18 _ h) (cwV 6 hts gX6_read_X6_mayGo rfl rfl rfl (by decide +kernel) ⟨Nat.le_of_ble_eq_true rfl, Nat.le_of_ble_eq_true rfl⟩) (mpreV E0_ok hK hE hA hw (Sub1.refl _) 0 rfl rfl) rfl rfl hl.1 rfl (lv_room (Nat.le_of_ble_eq_true rfl)) dX6_read_186 ⟨Nat.zero_le _, Nat.zero_le _⟩) hA hw (Sub1.refl _) (fun _ => Sub.whole rfl) (fun r67 u68 H locs h hw => ?_)
                    obtain ⟨hu, h⟩ := h
                    replace hu := hu.symm
                    subst hu
                    refine lv_if_eq (tgt := 196) hx hb dX6_read_189 (by decide) (fun c69 => ?_) (fun c69 => ?_)
                    · replace h := h.1 c69
                      refine lv_iconst (v := (0 : Int32)) hx hb dX6_read_196 (by decide) ?_
                      exact join56 (0 : Int32) _ _ _ h hw (lv_sub hl [1, 2, 3, 4, 5, 6, 8, 9, 0] rfl)
                    · replace h := h.2 c69
                      refine lv_iconst (v := (1 : Int32)) hx hb dX6_read_192 (by decide) ?_
                      refine lv_goto (tgt := 197) hx hb dX6_read_193 (by decide) ?_
                      exact join56 (1 : Int32) _ _ _ h hw (lv_sub hl [1, 2, 3, 4, 5, 6, 8, 9, 0] rfl)
                · replace h := h.1 c77
                  refine lv_aload_n hx hb dX6_read_142 rfl (lv_at hl 1 rfl) ?_
                  refine lv_iload_n hx hb dX6_read_143 rfl (lv_at hl 4 rfl) ?_
                  refine lv_iconst (v := (2 : Int32)) hx hb dX6_read_144 (by decide) ?_
                  refine mcalli (w1 := (wM g q)) (va_runV (As := [.int a3, .int (2 : Int32)]) (rest := []) hC (kX6_its l g  q H.size S J a3 (2 : Int32) _ h) (cwV 2 hts gX6_read_X6_its rfl rfl rfl (by decide +kernel) ⟨Nat.le_of_ble_eq_true rfl, Nat.le_of_ble_eq_true rfl⟩) (mpreV E0_ok hK hE hA hw (Sub1.refl _) 0 rfl rfl) rfl rfl hl.1 rfl (lv_room (Nat.le_of_ble_eq_true rfl)) dX6_read_145 ⟨Nat.zero_le _, Nat.zero_le _⟩) hA hw (Sub1.refl _) (fun _ => Sub.whole rfl) (fun r71 u72 H locs h hw => ?_)
                  obtain ⟨hu, h⟩ := h
                  replace hu := hu.symm
                  subst hu
                  refine lv_if_lt (tgt := 162) hx hb dX6_read_148 (by decide) (fun c76 => ?_) (fun c76 => ?_)
                  · replace h := h.1 c76
                    refine lv_iconst (v := (1 : Int32)) hx hb dX6_read_162 (by decide) ?_
                    refine lv_goto (tgt := 197) hx hb dX6_read_163 (by decide) ?_
                    exact join56 (1 : Int32) _ _ _ h hw (lv_sub hl [1, 2, 3, 4, 5, 6, 8, 9, 0] rfl)
                  · replace h := h.2 c76
                    refine lv_aload_n hx hb dX6_read_151 rfl (lv_at hl 1 rfl) ?_
                    refine lv_iload_n hx hb dX6_read_152 rfl (lv_at hl 4 rfl) ?_
                    refine lv_iconst (v := (2 : Int32)) hx hb dX6_read_153 (by decide) ?_
                    refine mcalli (w1 := (wM g q)) (va_runV (As := [.int a3, .int (2 : Int32)]) (rest := []) hC (kX6_its l g  q H.size S J a3 (2 : Int32) _ h) (cwV 2 hts gX6_read_X6_its rfl rfl rfl (by decide +kernel) ⟨Nat.le_of_ble_eq_true rfl, Nat.le_of_ble_eq_true rfl⟩) (mpreV E0_ok hK hE hA hw (Sub1.refl _) 0 rfl rfl) rfl rfl hl.1 rfl (lv_room (Nat.le_of_ble_eq_true rfl)) dX6_read_154 ⟨Nat.zero_le _, Nat.zero_le _⟩) hA hw (Sub1.refl _) (fun _ => Sub.whole rfl) (fun r73 u74 H locs h hw => ?_)
                    obtain ⟨hu, h⟩ := h
                    replace hu := hu.symm
                    subst hu
                    refine lv_iload hx hb dX6_read_157 (lv_at hl 9 rfl) ?_
                    refine lv_icmp_ne (tgt := 166) hx hb dX6_read_159 (by decide) (fun c75 => ?_) (fun c75 => ?_)
                    · replace h := h.2 c75
                      refine lv_iconst (v := (0 : Int32)) hx hb dX6_read_166 (by decide) ?_
                      refine lv_goto (tgt := 197) hx hb dX6_read_167 (by decide) ?_
                      exact join56 (0 : Int32) _ _ _ h hw (lv_sub hl [1, 2, 3, 4, 5, 6, 8, 9, 0] rfl)
                    · replace h := h.1 c75
                      refine lv_iconst (v := (1 : Int32)) hx hb dX6_read_162 (by decide) ?_
                      refine lv_goto (tgt := 197) hx hb dX6_read_163 (by decide) ?_
                      exact join56 (1 : Int32) _ _ _ h hw (lv_sub hl [1, 2, 3, 4, 5, 6, 8, 9, 0] rfl)
              refine lv_if_ne (tgt := 128) hx hb dX6_read_121 (by decide) (fun c80 => ?_) (fun c80 => ?_)
              · replace h := h.2 c80
                refine lv_iload hx hb dX6_read_128 (lv_at hl 9 rfl) ?_
                refine lv_iload hx hb dX6_read_130 (lv_at hl 0 rfl) ?_
                refine mcalli (w1 := (fun _ => (wM g q) (S, J))) (wc := fun _ : Unit => ([] : va_W)) (u := ()) (va_runS (As := [.int x19, .int x48]) (rest := []) hC (kX6_towards l g  H.size x19 x48 _ h) (va_cwS 2 hts gX6_read_X6_towards rfl rfl rfl (by decide +kernel) ⟨Nat.le_of_ble_eq_true rfl, Nat.le_of_ble_eq_true rfl⟩) (mpre E0_ok hK hE hA hw (Sub1.nil _)) rfl rfl hl.1 rfl (lv_room (Nat.le_of_ble_eq_true rfl)) dX6_read_132 ⟨Nat.zero_le _, Nat.zero_le _⟩) hA hw (Sub1.nil _) (fun _ => Sub.nil _) (fun r78 u79 H locs h hw => ?_)
                obtain ⟨_, h⟩ := h
                exact join52 r78 _ _ _ h hw (lv_sub hl [2, 3, 4, 5, 6, 7, 8, 10, 0] rfl)
              · replace h := h.1 c80
                refine lv_iconst (v := (-1 : Int32)) hx hb dX6_read_124 (by decide) ?_
                refine lv_goto (tgt := 135) hx hb dX6_read_125 (by decide) ?_
                exact join52 (-1 : Int32) _ _ _ h hw (lv_sub hl [2, 3, 4, 5, 6, 7, 8, 10, 0] rfl)
            · replace h := h.1 c81
              exact join45  _ _ _ h hw (lv_sub hl [9] rfl)
      · replace h := h.1 c84
        exact join7  _ _ _ h hw (lv_sub hl [1] rfl)
  · replace h := h.2 c90
    refine lv_aload_n hx hb dX6_read_12 rfl (lv_at hl 1 rfl) ?_
    refine lv_iload hx hb dX6_read_13 (lv_at hl 0 rfl) ?_
    refine mcalli (w1 := (wM g q)) (va_runV (As := [.int r1]) (rest := []) hC (kX6_finds l g  q H.size S J r1 _ h) (cwV 1 hts gX6_read_X6_finds rfl rfl rfl (by decide +kernel) ⟨Nat.le_of_ble_eq_true rfl, Nat.le_of_ble_eq_true rfl⟩) (mpreV E0_ok hK hE hA hw (Sub1.refl _) 0 rfl rfl) rfl rfl hl.1 rfl (lv_room (Nat.le_of_ble_eq_true rfl)) dX6_read_15 ⟨Nat.zero_le _, Nat.zero_le _⟩) hA hw (Sub1.refl _) (fun _ => Sub.whole rfl) (fun r86 u87 H locs h hw => ?_)
    obtain ⟨S88, J89⟩ := u87
    obtain ⟨hu, h⟩ := h
    replace hu : J = J89 := hu.symm
    subst hu
    rw [hQ]
    exact mreti (w := (wM g q)) (u := (S88, J)) hC hr hlocks hK hw ⟨rfl, h⟩ dX6_read_18
def wX6_image (S : Bun) (J : Lon)  (post : Int32 → Bun → Prop) : Prop :=
  wloop (σ := Int32 × Bun) (fun K3 z => match z with | (x1, S2) => (((56 : Int32) ≤ x1 → ∀ S9 : Bun, S9 = up S2 0 4 (1 : Int32) → post (1 : Int32) S9) ∧ (¬ ((56 : Int32) ≤ x1) → vp_in x1 56 ∧ vp_in x1 56 ∧ ∀ S10 : Bun, S10 = up S2 2 x1.toNatClampNeg (S2 1 x1.toNatClampNeg) → ∀ x11 : Int32, x11 = x1 + (1 : Int32) → K3 (x11, S10)))) ((0 : Int32), S)
set_option maxRecDepth 100000 in
set_option maxHeartbeats 4000000 in
theorem kX6_image (l : Launch) (g : Gl)  (q : Nat → Nat) (sz : Nat) (S : Bun) (J : Lon)  (post : Int32 → Bun → Prop) (h : wX6_image S J  post) : Met l yX6_image wsX6_image (rmm 0 0) (wPc g E0 ((wM g q) (S, J)) sz [.ref (q 0)]) (va_Qi (fun (r : Int32) (u : Bun × Lon) => u.2 = J ∧ post r u.1) (wB g (wM g q) (va_A ((wM g q) (S, J)) sz)) (va_A ((wM g q) (S, J)) sz)) 0 0 (va_A ((wM g q) (S, J)) sz) := by
  refine mstart (Qf := fun A => va_Qi (fun (r : Int32) (u : Bun × Lon) => u.2 = J ∧ post r u.1) (wB g (wM g q) A) A) (by decide) rfl (Nat.le_of_ble_eq_true rfl) ?_
  intro p e s m args below meth c A Q H locs ls hC hr hlocks hname hQ hA hK hE hw hl
  have hC : CallFix p m c cX6_image 2 s args wsX6_image RX6 := hC
  obtain ⟨hx, hb, -, hown, hts⟩ := id hC
  have hl : lv_has ls 2 [(0, .ref (q 0))] := hl
  rw [wX6_image] at h
  have hinX6 : ∀ w ∈ wsX60, w ∈ wsX6_image := fun w hw9 => List.mem_cons_of_mem _ (List.mem_append_right _ hw9)
  refine lv_iconst (v := (0 : Int32)) hx hb dX6_image_0 (by decide) ?_
  refine lv_istore_n (lv' := [(1, .int (0 : Int32)), (0, .ref (q 0))]) hx hb dX6_image_1 rfl hl (by decide) rfl (fun ls hl => ?_)
  refine h (fun z => match z with | (x1, S2) => ∀ (H : Heap) (locs : List Loc) (ls : Array Slot), Wd g.1 A s.heap ((wM g q) (S2, J)) H locs → lv_has ls 2 [(0, .ref (q 0)), (1, .int x1)] → W p l e (rmm 0 0) s m args below meth c H locs 0 0 Q (F0 m 2 ls [])) ?_ _ _ _ hw (lv_sub hl [1, 0] rfl)
  clear h hw hl
  rintro ⟨x1, S2⟩ h H locs ls hw hl
  refine lv_iload_n hx hb dX6_image_2 rfl (lv_at hl 1 rfl) ?_
  refine lv_bipush (v := (56 : Int32)) hx hb dX6_image_3 (by decide) ?_
  refine lv_icmp_ge (tgt := 26) hx hb dX6_image_5 (by decide) (fun c13 => ?_) (fun c13 => ?_)
  · replace h := h.1 c13
    refine lv_aload_n hx hb dX6_image_26 rfl (lv_at hl 0 rfl) ?_
    refine lv_iconst (v := (1 : Int32)) hx hb dX6_image_27 (by decide) ?_
    refine M_mp4 hC hinX6 hK hw (List.mem_of_getElem? (i := 3) rfl) (Or.inr rfl) dX6_image_28 (fun S9 H locs eS9 hw => ?_)
    replace h := h S9 eS9
    refine lv_iconst (v := (1 : Int32)) hx hb dX6_image_31 (by decide) ?_
    rw [hQ]
    exact mreti (w := (wM g q)) (u := (S9, J)) hC hr hlocks hK hw ⟨rfl, h⟩ dX6_image_32
  · replace h := h.2 c13
    refine lv_aload_n hx hb dX6_image_8 rfl (lv_at hl 0 rfl) ?_
    refine M_mg1 hC hinX6 hK hw (List.mem_of_getElem? (i := 1) rfl) dX6_image_9 ?_
    refine lv_iload_n hx hb dX6_image_12 rfl (lv_at hl 1 rfl) ?_
    refine lv_aload_n hx hb dX6_image_13 rfl (lv_at hl 0 rfl) ?_
    refine M_mg0 hC hinX6 hK hw (List.mem_of_getElem? (i := 2) rfl) dX6_image_14 ?_
    refine lv_iload_n hx hb dX6_image_17 rfl (lv_at hl 1 rfl) ?_
    obtain ⟨hi, h⟩ := h
    refine M_ml0 hC hK hw hi dX6_image_18 ?_
    obtain ⟨hi, h⟩ := h
    refine M_ms1 hC hK hw hi dX6_image_19 (fun S10 H locs eS10 hw => ?_)
    replace h := h S10 eS10
    obtain ⟨x11, ex11⟩ : ∃ y : Int32, y = x1 + (1 : Int32) := ⟨_, rfl⟩
    refine lv_iinc (v := x11) (lv' := [(1, .int x11), (0, .ref (q 0))]) hx hb dX6_image_20 hl (k := 1) rfl (by rw [ex11]; rfl) (by decide) rfl (fun ls hl => ?_)
    replace h := h x11 ex11
    refine lv_goto (tgt := 2) hx hb dX6_image_23 (by decide) ?_
    exact h _ _ _ hw (lv_sub hl [1, 0] rfl)
def wX6_undo (S : Bun) (J : Lon)  (post : Int32 → Bun → Prop) : Prop :=
  (((S 0 4) = 0 → wX6_finds S J (-1000000004 : Int32) (fun r13 S15 => post r13 S15)) ∧ (¬ ((S 0 4) = 0) → wloop (σ := Int32 × Bun) (fun K3 z => match z with | (x1, S2) => (((56 : Int32) ≤ x1 → vp_in (0 : Int32) 56 ∧ post (S2 1 (0 : Int32).toNatClampNeg) S2) ∧ (¬ ((56 : Int32) ≤ x1) → vp_in x1 56 ∧ vp_in x1 56 ∧ ∀ S9 : Bun, S9 = up S2 1 x1.toNatClampNeg (S2 2 x1.toNatClampNeg) → ∀ x10 : Int32, x10 = x1 + (1 : Int32) → K3 (x10, S9)))) ((0 : Int32), S)))
set_option maxRecDepth 100000 in
set_option maxHeartbeats 4000000 in
theorem kX6_undo (l : Launch) (g : Gl)  (q : Nat → Nat) (sz : Nat) (S : Bun) (J : Lon)  (post : Int32 → Bun → Prop) (h : wX6_undo S J  post) : Met l yX6_undo wsX6_undo (rmm 1 21) (wPc g E0 ((wM g q) (S, J)) sz [.ref (q 0)]) (va_Qi (fun (r : Int32) (u : Bun × Lon) => u.2 = J ∧ post r u.1) (wB g (wM g q) (va_A ((wM g q) (S, J)) sz)) (va_A ((wM g q) (S, J)) sz)) 0 0 (va_A ((wM g q) (S, J)) sz) := by
  refine mstart (Qf := fun A => va_Qi (fun (r : Int32) (u : Bun × Lon) => u.2 = J ∧ post r u.1) (wB g (wM g q) A) A) (by decide) rfl (Nat.le_of_ble_eq_true rfl) ?_
  intro p e s m args below meth c A Q H locs ls hC hr hlocks hname hQ hA hK hE hw hl
  have hC : CallFix p m c cX6_undo 2 s args wsX6_undo RX6 := hC
  obtain ⟨hx, hb, -, hown, hts⟩ := id hC
  have hl : lv_has ls 2 [(0, .ref (q 0))] := hl
  rw [wX6_undo] at h
  have hinX6 : ∀ w ∈ wsX60, w ∈ wsX6_undo := fun w hw9 => List.mem_cons_of_mem _ (List.mem_append_right _ hw9)
  refine lv_aload_n hx hb dX6_undo_0 rfl (lv_at hl 0 rfl) ?_
  refine M_mg4 hC hinX6 hK hw (List.mem_of_getElem? (i := 1) rfl) dX6_undo_1 ?_
  refine lv_if_ne (tgt := 14) hx hb dX6_undo_4 (by decide) (fun c17 => ?_) (fun c17 => ?_)
  · replace h := h.2 c17
    refine lv_iconst (v := (0 : Int32)) hx hb dX6_undo_14 (by decide) ?_
    refine lv_istore_n (lv' := [(1, .int (0 : Int32)), (0, .ref (q 0))]) hx hb dX6_undo_15 rfl hl (by decide) rfl (fun ls hl => ?_)
    refine h (fun z => match z with | (x1, S2) => ∀ (H : Heap) (locs : List Loc) (ls : Array Slot), Wd g.1 A s.heap ((wM g q) (S2, J)) H locs → lv_has ls 2 [(0, .ref (q 0)), (1, .int x1)] → W p l e (rmm 1 21) s m args below meth c H locs 0 0 Q (F0 m 16 ls [])) ?_ _ _ _ hw (lv_sub hl [1, 0] rfl)
    clear h hw hl
    rintro ⟨x1, S2⟩ h H locs ls hw hl
    refine lv_iload_n hx hb dX6_undo_16 rfl (lv_at hl 1 rfl) ?_
    refine lv_bipush (v := (56 : Int32)) hx hb dX6_undo_17 (by decide) ?_
    refine lv_icmp_ge (tgt := 40) hx hb dX6_undo_19 (by decide) (fun c12 => ?_) (fun c12 => ?_)
    · replace h := h.1 c12
      refine lv_aload_n hx hb dX6_undo_40 rfl (lv_at hl 0 rfl) ?_
      refine M_mg0 hC hinX6 hK hw (List.mem_of_getElem? (i := 3) rfl) dX6_undo_41 ?_
      refine lv_iconst (v := (0 : Int32)) hx hb dX6_undo_44 (by decide) ?_
      obtain ⟨hi, h⟩ := h
      refine M_ml0 hC hK hw hi dX6_undo_45 ?_
      rw [hQ]
      exact mreti (w := (wM g q)) (u := (S2, J)) hC hr hlocks hK hw ⟨rfl, h⟩ dX6_undo_46
    · replace h := h.2 c12
      refine lv_aload_n hx hb dX6_undo_22 rfl (lv_at hl 0 rfl) ?_
      refine M_mg0 hC hinX6 hK hw (List.mem_of_getElem? (i := 3) rfl) dX6_undo_23 ?_
      refine lv_iload_n hx hb dX6_undo_26 rfl (lv_at hl 1 rfl) ?_
      refine lv_aload_n hx hb dX6_undo_27 rfl (lv_at hl 0 rfl) ?_
      refine M_mg1 hC hinX6 hK hw (List.mem_of_getElem? (i := 4) rfl) dX6_undo_28 ?_
      refine lv_iload_n hx hb dX6_undo_31 rfl (lv_at hl 1 rfl) ?_
      obtain ⟨hi, h⟩ := h
      refine M_ml1 hC hK hw hi dX6_undo_32 ?_
      obtain ⟨hi, h⟩ := h
      refine M_ms0 hC hK hw hi dX6_undo_33 (fun S9 H locs eS9 hw => ?_)
      replace h := h S9 eS9
      obtain ⟨x10, ex10⟩ : ∃ y : Int32, y = x1 + (1 : Int32) := ⟨_, rfl⟩
      refine lv_iinc (v := x10) (lv' := [(1, .int x10), (0, .ref (q 0))]) hx hb dX6_undo_34 hl (k := 1) rfl (by rw [ex10]; rfl) (by decide) rfl (fun ls hl => ?_)
      replace h := h x10 ex10
      refine lv_goto (tgt := 16) hx hb dX6_undo_37 (by decide) ?_
      exact h _ _ _ hw (lv_sub hl [1, 0] rfl)
  · replace h := h.1 c17
    refine lv_aload_n hx hb dX6_undo_7 rfl (lv_at hl 0 rfl) ?_
    refine lv_ldc (v := (-1000000004 : Int32)) hx hb hown (hts (.constant RX6 188 (-1000000004)) (List.mem_of_getElem? (i := 2) rfl)) dX6_undo_8 ?_
    refine mcalli (w1 := (wM g q)) (va_runV (As := [.int (-1000000004 : Int32)]) (rest := []) hC (kX6_finds l g  q H.size S J (-1000000004 : Int32) _ h) (cwV 1 hts gX6_undo_X6_finds rfl rfl rfl (by decide +kernel) ⟨Nat.le_of_ble_eq_true rfl, Nat.le_of_ble_eq_true rfl⟩) (mpreV E0_ok hK hE hA hw (Sub1.refl _) 0 rfl rfl) rfl rfl hl.1 rfl (lv_room (Nat.le_of_ble_eq_true rfl)) dX6_undo_10 ⟨Nat.zero_le _, Nat.zero_le _⟩) hA hw (Sub1.refl _) (fun _ => Sub.whole rfl) (fun r13 u14 H locs h hw => ?_)
    obtain ⟨S15, J16⟩ := u14
    obtain ⟨hu, h⟩ := h
    replace hu : J = J16 := hu.symm
    subst hu
    rw [hQ]
    exact mreti (w := (wM g q)) (u := (S15, J)) hC hr hlocks hK hw ⟨rfl, h⟩ dX6_undo_13
def wX6_tear (S : Bun) (J : Lon)  (post : Int32 → Bun → Prop) : Prop :=
  wjoin (σ := Int32) (fun y1 => ∀ S5 : Bun, S5 = up S 0 4 (0 : Int32) → post y1 S5) (fun J2 => (((S 0 4) = 0 → J2 (0 : Int32)) ∧ (¬ ((S 0 4) = 0) → J2 (1 : Int32))))
set_option maxRecDepth 100000 in
set_option maxHeartbeats 4000000 in
theorem kX6_tear (l : Launch) (g : Gl)  (q : Nat → Nat) (sz : Nat) (S : Bun) (J : Lon)  (post : Int32 → Bun → Prop) (h : wX6_tear S J  post) : Met l yX6_tear wsX6_tear (rmm 0 0) (wPc g E0 ((wM g q) (S, J)) sz [.ref (q 0)]) (va_Qi (fun (r : Int32) (u : Bun × Lon) => u.2 = J ∧ post r u.1) (wB g (wM g q) (va_A ((wM g q) (S, J)) sz)) (va_A ((wM g q) (S, J)) sz)) 0 0 (va_A ((wM g q) (S, J)) sz) := by
  refine mstart (Qf := fun A => va_Qi (fun (r : Int32) (u : Bun × Lon) => u.2 = J ∧ post r u.1) (wB g (wM g q) A) A) (by decide) rfl (Nat.le_of_ble_eq_true rfl) ?_
  intro p e s m args below meth c A Q H locs ls hC hr hlocks hname hQ hA hK hE hw hl
  have hC : CallFix p m c cX6_tear 2 s args wsX6_tear RX6 := hC
  obtain ⟨hx, hb, -, hown, hts⟩ := id hC
  have hl : lv_has ls 2 [(0, .ref (q 0))] := hl
  rw [wX6_tear] at h
  have hinX6 : ∀ w ∈ wsX60, w ∈ wsX6_tear := fun w hw9 => List.mem_cons_of_mem _ (List.mem_append_right _ hw9)
  refine lv_aload_n hx hb dX6_tear_0 rfl (lv_at hl 0 rfl) ?_
  refine M_mg4 hC hinX6 hK hw (List.mem_of_getElem? (i := 1) rfl) dX6_tear_1 ?_
  obtain ⟨J2, hJ3, h⟩ := h
  have join4 : ∀ (y1 : Int32) (H : Heap) (locs : List Loc) (ls : Array Slot), J2 y1 → Wd g.1 A s.heap ((wM g q) (S, J)) H locs → lv_has ls 2 [(0, .ref (q 0))] → W p l e (rmm 0 0) s m args below meth c H locs 0 0 Q (F0 m 12 ls [.int y1]) := by
    intro y1 H locs ls h hw hl
    replace h := hJ3 y1 h
    refine lv_istore_n (lv' := [(1, .int y1), (0, .ref (q 0))]) hx hb dX6_tear_12 rfl hl (by decide) rfl (fun ls hl => ?_)
    refine lv_aload_n hx hb dX6_tear_13 rfl (lv_at hl 1 rfl) ?_
    refine lv_iconst (v := (0 : Int32)) hx hb dX6_tear_14 (by decide) ?_
    refine M_mp4 hC hinX6 hK hw (List.mem_of_getElem? (i := 1) rfl) (Or.inl rfl) dX6_tear_15 (fun S5 H locs eS5 hw => ?_)
    replace h := h S5 eS5
    refine lv_iload_n hx hb dX6_tear_18 rfl (lv_at hl 0 rfl) ?_
    rw [hQ]
    exact mreti (w := (wM g q)) (u := (S5, J)) hC hr hlocks hK hw ⟨rfl, h⟩ dX6_tear_19
  refine lv_if_eq (tgt := 11) hx hb dX6_tear_4 (by decide) (fun c6 => ?_) (fun c6 => ?_)
  · replace h := h.1 c6
    refine lv_iconst (v := (0 : Int32)) hx hb dX6_tear_11 (by decide) ?_
    exact join4 (0 : Int32) _ _ _ h hw (lv_sub hl [0] rfl)
  · replace h := h.2 c6
    refine lv_iconst (v := (1 : Int32)) hx hb dX6_tear_7 (by decide) ?_
    refine lv_goto (tgt := 12) hx hb dX6_tear_8 (by decide) ?_
    exact join4 (1 : Int32) _ _ _ h hw (lv_sub hl [0] rfl)
def wX6_count (S : Bun) (J : Lon) (a1 : Int32) (post : Int32 → Bun → Prop) : Prop :=
  ∀ x1 : Int32, x1 = a1 → ((x1 = (0 : Int32) → vp_in (0 : Int32) 56 ∧ post (S 1 (0 : Int32).toNatClampNeg) S) ∧ (x1 = (1 : Int32) → vp_in (1 : Int32) 56 ∧ post (S 1 (1 : Int32).toNatClampNeg) S) ∧ (x1 = (2 : Int32) → wloop (σ := Int32 × Int32) (fun K5 z => match z with | (x3, x4) => vp_in (0 : Int32) 56 ∧ (((S 1 (0 : Int32).toNatClampNeg) ≤ x4 → post x3 S) ∧ (¬ ((S 1 (0 : Int32).toNatClampNeg) ≤ x4) → wX6_earth S J x4 (fun r11 => wX6_ones r11 (fun r13 => ∀ x15 : Int32, x15 = x3 + r13 → ∀ x16 : Int32, x16 = x4 + (1 : Int32) → K5 (x15, x16)))))) ((0 : Int32), (0 : Int32))) ∧ (x1 = (3 : Int32) → wloop (σ := Int32 × Int32) (fun K21 z => match z with | (x19, x20) => vp_in (0 : Int32) 56 ∧ (((S 1 (0 : Int32).toNatClampNeg) ≤ x20 → post x19 S) ∧ (¬ ((S 1 (0 : Int32).toNatClampNeg) ≤ x20) → vp_in ((38 : Int32) + x20) 56 ∧ wX6_ones (S 1 ((38 : Int32) + x20).toNatClampNeg) (fun r27 => ∀ x29 : Int32, x29 = x19 + r27 → ∀ x30 : Int32, x30 = x20 + (1 : Int32) → K21 (x29, x30))))) ((0 : Int32), (0 : Int32))) ∧ (x1 = (4 : Int32) → post (S 0 24) S) ∧ ((x1.toInt < 0 ∨ 4 < x1.toInt) → wX6_finds S J (-1000000001 : Int32) (fun r33 S35 => post r33 S35)))
set_option maxRecDepth 100000 in
set_option maxHeartbeats 4000000 in
theorem kX6_count (l : Launch) (g : Gl)  (q : Nat → Nat) (sz : Nat) (S : Bun) (J : Lon) (a1 : Int32) (post : Int32 → Bun → Prop) (h : wX6_count S J a1 post) : Met l yX6_count wsX6_count (rmm 2 43) (wPc g E0 ((wM g q) (S, J)) sz [.ref (q 0), .int a1]) (va_Qi (fun (r : Int32) (u : Bun × Lon) => u.2 = J ∧ post r u.1) (wB g (wM g q) (va_A ((wM g q) (S, J)) sz)) (va_A ((wM g q) (S, J)) sz)) 0 0 (va_A ((wM g q) (S, J)) sz) := by
  refine mstart (Qf := fun A => va_Qi (fun (r : Int32) (u : Bun × Lon) => u.2 = J ∧ post r u.1) (wB g (wM g q) A) A) (by decide) rfl (Nat.le_of_ble_eq_true rfl) ?_
  intro p e s m args below meth c A Q H locs ls hC hr hlocks hname hQ hA hK hE hw hl
  have hC : CallFix p m c cX6_count 4 s args wsX6_count RX6 := hC
  obtain ⟨hx, hb, -, hown, hts⟩ := id hC
  have hl : lv_has ls 4 [(0, .ref (q 0)), (1, .int a1)] := hl
  rw [wX6_count] at h
  have hinX6 : ∀ w ∈ wsX60, w ∈ wsX6_count := fun w hw9 => List.mem_cons_of_mem _ (List.mem_append_right _ hw9)
  refine lv_iconst (v := (0 : Int32)) hx hb dX6_count_0 (by decide) ?_
  refine lv_istore_n (lv' := [(2, .int (0 : Int32)), (0, .ref (q 0)), (1, .int a1)]) hx hb dX6_count_1 rfl hl (by decide) rfl (fun ls hl => ?_)
  refine lv_iload_n hx hb dX6_count_2 rfl (lv_at hl 2 rfl) ?_
  refine lv_topi (fun x1 ex1 => ?_)
  replace h := h x1 ex1
  rcases sw0_4 x1 with c2 | c2 | c2 | c2 | c2 | c2
  · replace h := h.1 c2
    rw [c2]
    refine lv_tableIn (tgt := 36) (off := 33) hx hb dX6_count_3 (by decide) (by decide) rfl (by decide) ?_
    refine lv_aload_n hx hb dX6_count_36 rfl (lv_at hl 1 rfl) ?_
    refine M_mg0 hC hinX6 hK hw (List.mem_of_getElem? (i := 1) rfl) dX6_count_37 ?_
    refine lv_iconst (v := (0 : Int32)) hx hb dX6_count_40 (by decide) ?_
    obtain ⟨hi, h⟩ := h
    refine M_ml0 hC hK hw hi dX6_count_41 ?_
    rw [hQ]
    exact mreti (w := (wM g q)) (u := (S, J)) hC hr hlocks hK hw ⟨rfl, h⟩ dX6_count_42
  · replace h := h.2.1 c2
    rw [c2]
    refine lv_tableIn (tgt := 43) (off := 40) hx hb dX6_count_3 (by decide) (by decide) rfl (by decide) ?_
    refine lv_aload_n hx hb dX6_count_43 rfl (lv_at hl 1 rfl) ?_
    refine M_mg0 hC hinX6 hK hw (List.mem_of_getElem? (i := 1) rfl) dX6_count_44 ?_
    refine lv_iconst (v := (1 : Int32)) hx hb dX6_count_47 (by decide) ?_
    obtain ⟨hi, h⟩ := h
    refine M_ml0 hC hK hw hi dX6_count_48 ?_
    rw [hQ]
    exact mreti (w := (wM g q)) (u := (S, J)) hC hr hlocks hK hw ⟨rfl, h⟩ dX6_count_49
  · replace h := h.2.2.1 c2
    rw [c2]
    refine lv_tableIn (tgt := 50) (off := 47) hx hb dX6_count_3 (by decide) (by decide) rfl (by decide) ?_
    refine lv_iconst (v := (0 : Int32)) hx hb dX6_count_50 (by decide) ?_
    refine lv_istore_n (lv' := [(3, .int (0 : Int32)), (2, .int (0 : Int32)), (0, .ref (q 0)), (1, .int a1)]) hx hb dX6_count_51 rfl hl (by decide) rfl (fun ls hl => ?_)
    refine h (fun z => match z with | (x3, x4) => ∀ (H : Heap) (locs : List Loc) (ls : Array Slot), Wd g.1 A s.heap ((wM g q) (S, J)) H locs → lv_has ls 4 [(0, .ref (q 0)), (2, .int x3), (3, .int x4)] → W p l e (rmm 2 43) s m args below meth c H locs 0 0 Q (F0 m 52 ls [])) ?_ _ _ _ hw (lv_sub hl [2, 1, 0] rfl)
    clear h hw hl
    rintro ⟨x3, x4⟩ h H locs ls hw hl
    refine lv_iload_n hx hb dX6_count_52 rfl (lv_at hl 2 rfl) ?_
    refine lv_aload_n hx hb dX6_count_53 rfl (lv_at hl 0 rfl) ?_
    refine M_mg0 hC hinX6 hK hw (List.mem_of_getElem? (i := 1) rfl) dX6_count_54 ?_
    refine lv_iconst (v := (0 : Int32)) hx hb dX6_count_57 (by decide) ?_
    obtain ⟨hi, h⟩ := h
    refine M_ml0 hC hK hw hi dX6_count_58 ?_
    refine lv_icmp_ge (tgt := 79) hx hb dX6_count_59 (by decide) (fun c18 => ?_) (fun c18 => ?_)
    · replace h := h.1 c18
      refine lv_iload_n hx hb dX6_count_79 rfl (lv_at hl 1 rfl) ?_
      rw [hQ]
      exact mreti (w := (wM g q)) (u := (S, J)) hC hr hlocks hK hw ⟨rfl, h⟩ dX6_count_80
    · replace h := h.2 c18
      refine lv_iload_n hx hb dX6_count_62 rfl (lv_at hl 1 rfl) ?_
      refine lv_aload_n hx hb dX6_count_63 rfl (lv_at hl 0 rfl) ?_
      refine lv_iload_n hx hb dX6_count_64 rfl (lv_at hl 2 rfl) ?_
      refine mcalli (w1 := (wM g q)) (va_runV (As := [.int x4]) (rest := [.int x3]) hC (kX6_earth l g  q H.size S J x4 _ h) (cwV 1 hts gX6_count_X6_earth rfl rfl rfl (by decide +kernel) ⟨Nat.le_of_ble_eq_true rfl, Nat.le_of_ble_eq_true rfl⟩) (mpreV E0_ok hK hE hA hw (Sub1.refl _) 0 rfl rfl) rfl rfl hl.1 rfl (lv_room (Nat.le_of_ble_eq_true rfl)) dX6_count_65 ⟨Nat.zero_le _, Nat.zero_le _⟩) hA hw (Sub1.refl _) (fun _ => Sub.whole rfl) (fun r11 u12 H locs h hw => ?_)
      obtain ⟨hu, h⟩ := h
      replace hu := hu.symm
      subst hu
      refine mcalli (w1 := (fun _ => (wM g q) (S, J))) (wc := fun _ : Unit => ([] : va_W)) (u := ()) (va_runS (As := [.int r11]) (rest := [.int x3]) hC (kX6_ones l g  H.size r11 _ h) (va_cwS 1 hts gX6_count_X6_ones rfl rfl rfl (by decide +kernel) ⟨Nat.le_of_ble_eq_true rfl, Nat.le_of_ble_eq_true rfl⟩) (mpre E0_ok hK hE hA hw (Sub1.nil _)) rfl rfl hl.1 rfl (lv_room (Nat.le_of_ble_eq_true rfl)) dX6_count_68 ⟨Nat.zero_le _, Nat.zero_le _⟩) hA hw (Sub1.nil _) (fun _ => Sub.nil _) (fun r13 u14 H locs h hw => ?_)
      obtain ⟨_, h⟩ := h
      refine lv_iadd hx hb dX6_count_71 ?_
      refine lv_topi (fun x15 ex15 => ?_)
      replace h := h x15 ex15
      refine lv_istore_n (lv' := [(2, .int x15), (0, .ref (q 0)), (3, .int x4)]) hx hb dX6_count_72 rfl hl (by decide) rfl (fun ls hl => ?_)
      obtain ⟨x16, ex16⟩ : ∃ y : Int32, y = x4 + (1 : Int32) := ⟨_, rfl⟩
      refine lv_iinc (v := x16) (lv' := [(3, .int x16), (2, .int x15), (0, .ref (q 0))]) hx hb dX6_count_73 hl (k := 2) rfl (by rw [ex16]; rfl) (by decide) rfl (fun ls hl => ?_)
      replace h := h x16 ex16
      refine lv_goto (tgt := 52) hx hb dX6_count_76 (by decide) ?_
      exact h _ _ _ hw (lv_sub hl [2, 1, 0] rfl)
  · replace h := h.2.2.2.1 c2
    rw [c2]
    refine lv_tableIn (tgt := 81) (off := 78) hx hb dX6_count_3 (by decide) (by decide) rfl (by decide) ?_
    refine lv_iconst (v := (0 : Int32)) hx hb dX6_count_81 (by decide) ?_
    refine lv_istore_n (lv' := [(3, .int (0 : Int32)), (2, .int (0 : Int32)), (0, .ref (q 0)), (1, .int a1)]) hx hb dX6_count_82 rfl hl (by decide) rfl (fun ls hl => ?_)
    refine h (fun z => match z with | (x19, x20) => ∀ (H : Heap) (locs : List Loc) (ls : Array Slot), Wd g.1 A s.heap ((wM g q) (S, J)) H locs → lv_has ls 4 [(0, .ref (q 0)), (2, .int x19), (3, .int x20)] → W p l e (rmm 2 43) s m args below meth c H locs 0 0 Q (F0 m 83 ls [])) ?_ _ _ _ hw (lv_sub hl [2, 1, 0] rfl)
    clear h hw hl
    rintro ⟨x19, x20⟩ h H locs ls hw hl
    refine lv_iload_n hx hb dX6_count_83 rfl (lv_at hl 2 rfl) ?_
    refine lv_aload_n hx hb dX6_count_84 rfl (lv_at hl 0 rfl) ?_
    refine M_mg0 hC hinX6 hK hw (List.mem_of_getElem? (i := 1) rfl) dX6_count_85 ?_
    refine lv_iconst (v := (0 : Int32)) hx hb dX6_count_88 (by decide) ?_
    obtain ⟨hi, h⟩ := h
    refine M_ml0 hC hK hw hi dX6_count_89 ?_
    refine lv_icmp_ge (tgt := 114) hx hb dX6_count_90 (by decide) (fun c32 => ?_) (fun c32 => ?_)
    · replace h := h.1 c32
      refine lv_iload_n hx hb dX6_count_114 rfl (lv_at hl 1 rfl) ?_
      rw [hQ]
      exact mreti (w := (wM g q)) (u := (S, J)) hC hr hlocks hK hw ⟨rfl, h⟩ dX6_count_115
    · replace h := h.2 c32
      refine lv_iload_n hx hb dX6_count_93 rfl (lv_at hl 1 rfl) ?_
      refine lv_aload_n hx hb dX6_count_94 rfl (lv_at hl 0 rfl) ?_
      refine M_mg0 hC hinX6 hK hw (List.mem_of_getElem? (i := 1) rfl) dX6_count_95 ?_
      refine lv_bipush (v := (38 : Int32)) hx hb dX6_count_98 (by decide) ?_
      refine lv_iload_n hx hb dX6_count_100 rfl (lv_at hl 2 rfl) ?_
      refine lv_iadd hx hb dX6_count_101 ?_
      obtain ⟨hi, h⟩ := h
      refine M_ml0 hC hK hw hi dX6_count_102 ?_
      refine mcalli (w1 := (fun _ => (wM g q) (S, J))) (wc := fun _ : Unit => ([] : va_W)) (u := ()) (va_runS (As := [.int (S 1 ((38 : Int32) + x20).toNatClampNeg)]) (rest := [.int x19]) hC (kX6_ones l g  H.size (S 1 ((38 : Int32) + x20).toNatClampNeg) _ h) (va_cwS 1 hts gX6_count_X6_ones rfl rfl rfl (by decide +kernel) ⟨Nat.le_of_ble_eq_true rfl, Nat.le_of_ble_eq_true rfl⟩) (mpre E0_ok hK hE hA hw (Sub1.nil _)) rfl rfl hl.1 rfl (lv_room (Nat.le_of_ble_eq_true rfl)) dX6_count_103 ⟨Nat.zero_le _, Nat.zero_le _⟩) hA hw (Sub1.nil _) (fun _ => Sub.nil _) (fun r27 u28 H locs h hw => ?_)
      obtain ⟨_, h⟩ := h
      refine lv_iadd hx hb dX6_count_106 ?_
      refine lv_topi (fun x29 ex29 => ?_)
      replace h := h x29 ex29
      refine lv_istore_n (lv' := [(2, .int x29), (0, .ref (q 0)), (3, .int x20)]) hx hb dX6_count_107 rfl hl (by decide) rfl (fun ls hl => ?_)
      obtain ⟨x30, ex30⟩ : ∃ y : Int32, y = x20 + (1 : Int32) := ⟨_, rfl⟩
      refine lv_iinc (v := x30) (lv' := [(3, .int x30), (2, .int x29), (0, .ref (q 0))]) hx hb dX6_count_108 hl (k := 2) rfl (by rw [ex30]; rfl) (by decide) rfl (fun ls hl => ?_)
      replace h := h x30 ex30
      refine lv_goto (tgt := 83) hx hb dX6_count_111 (by decide) ?_
      exact h _ _ _ hw (lv_sub hl [2, 1, 0] rfl)
  · replace h := h.2.2.2.2.1 c2
    rw [c2]
    refine lv_tableIn (tgt := 116) (off := 113) hx hb dX6_count_3 (by decide) (by decide) rfl (by decide) ?_
    refine lv_aload_n hx hb dX6_count_116 rfl (lv_at hl 1 rfl) ?_
    refine M_mg24 hC hinX6 hK hw (List.mem_of_getElem? (i := 2) rfl) dX6_count_117 ?_
    rw [hQ]
    exact mreti (w := (wM g q)) (u := (S, J)) hC hr hlocks hK hw ⟨rfl, h⟩ dX6_count_120
  · replace h := h.2.2.2.2.2 c2
    refine lv_tableOut (tgt := 121) hx hb dX6_count_3 c2 (by decide) ?_
    refine lv_aload_n hx hb dX6_count_121 rfl (lv_at hl 1 rfl) ?_
    refine lv_ldc (v := (-1000000001 : Int32)) hx hb hown (hts (.constant RX6 68 (-1000000001)) (List.mem_of_getElem? (i := 3) rfl)) dX6_count_122 ?_
    refine mcalli (w1 := (wM g q)) (va_runV (As := [.int (-1000000001 : Int32)]) (rest := []) hC (kX6_finds l g  q H.size S J (-1000000001 : Int32) _ h) (cwV 1 hts gX6_count_X6_finds rfl rfl rfl (by decide +kernel) ⟨Nat.le_of_ble_eq_true rfl, Nat.le_of_ble_eq_true rfl⟩) (mpreV E0_ok hK hE hA hw (Sub1.refl _) 0 rfl rfl) rfl rfl hl.1 rfl (lv_room (Nat.le_of_ble_eq_true rfl)) dX6_count_124 ⟨Nat.zero_le _, Nat.zero_le _⟩) hA hw (Sub1.refl _) (fun _ => Sub.whole rfl) (fun r33 u34 H locs h hw => ?_)
    obtain ⟨S35, J36⟩ := u34
    obtain ⟨hu, h⟩ := h
    replace hu : J = J36 := hu.symm
    subst hu
    rw [hQ]
    exact mreti (w := (wM g q)) (u := (S35, J)) hC hr hlocks hK hw ⟨rfl, h⟩ dX6_count_127
def wX6_status (S : Bun) (J : Lon) (a1 : Int32) (post : Int32 → Bun → Prop) : Prop :=
  wX6_in a1.toInt64 (-1 : Int64) (6 : Int64) (fun r1 => ((r1 = 0 → wX6_finds S J (-1000000001 : Int32) (fun r24 S26 => post r24 S26)) ∧ (¬ (r1 = 0) → wloop (σ := Int32 × Int32) (fun K5 z => match z with | (x3, x4) => (((7 : Int32) ≤ x4 → post x3 S) ∧ (¬ ((7 : Int32) ≤ x4) → wjoin (σ := Int32) (fun y11 => ∀ x15 : Int32, x15 = x3 + y11 → ∀ x16 : Int32, x16 = x4 + (1 : Int32) → K5 (x15, x16)) (fun J12 => wjoin (σ := Unit) (fun _ => vp_in x4 7 ∧ J12 (S 4 x4.toNatClampNeg)) (fun J18 => ((a1 < 0 → J18 ()) ∧ (¬ (a1 < 0) → ((x4 = a1 → J18 ()) ∧ (¬ (x4 = a1) → J12 (0 : Int32)))))))))) ((0 : Int32), (0 : Int32)))))
set_option maxRecDepth 100000 in
set_option maxHeartbeats 4000000 in
theorem kX6_status (l : Launch) (g : Gl)  (q : Nat → Nat) (sz : Nat) (S : Bun) (J : Lon) (a1 : Int32) (post : Int32 → Bun → Prop) (h : wX6_status S J a1 post) : Met l yX6_status wsX6_status (rmm 1 25) (wPc g E0 ((wM g q) (S, J)) sz [.ref (q 0), .int a1]) (va_Qi (fun (r : Int32) (u : Bun × Lon) => u.2 = J ∧ post r u.1) (wB g (wM g q) (va_A ((wM g q) (S, J)) sz)) (va_A ((wM g q) (S, J)) sz)) 0 0 (va_A ((wM g q) (S, J)) sz) := by
  refine mstart (Qf := fun A => va_Qi (fun (r : Int32) (u : Bun × Lon) => u.2 = J ∧ post r u.1) (wB g (wM g q) A) A) (by decide) rfl (Nat.le_of_ble_eq_true rfl) ?_
  intro p e s m args below meth c A Q H locs ls hC hr hlocks hname hQ hA hK hE hw hl
  have hC : CallFix p m c cX6_status 4 s args wsX6_status RX6 := hC
  obtain ⟨hx, hb, -, hown, hts⟩ := id hC
  have hl : lv_has ls 4 [(0, .ref (q 0)), (1, .int a1)] := hl
  rw [wX6_status] at h
  have hinX6 : ∀ w ∈ wsX60, w ∈ wsX6_status := fun w hw9 => List.mem_cons_of_mem _ (List.mem_append_right _ hw9)
  refine lv_iload_n hx hb dX6_status_0 rfl (lv_at hl 1 rfl) ?_
  refine lv_i2l (v := a1.toInt64) hx hb dX6_status_1 rfl ?_
  refine lv_ldc2 (v := (-1 : Int64)) hx hb hown (hts (.constantLong RX6 142 (-1)) (List.mem_of_getElem? (i := 1) rfl)) dX6_status_2 ?_
  refine lv_ldc2 (v := (6 : Int64)) hx hb hown (hts (.constantLong RX6 218 (6)) (List.mem_of_getElem? (i := 2) rfl)) dX6_status_5 ?_
  refine mcalli (w1 := (fun _ => (wM g q) (S, J))) (wc := fun _ : Unit => ([] : va_W)) (u := ()) (va_runS (As := [.long a1.toInt64, .long (-1 : Int64), .long (6 : Int64)]) (rest := []) hC (kX6_in l g  H.size a1.toInt64 (-1 : Int64) (6 : Int64) _ h) (va_cwS 3 hts gX6_status_X6_in rfl rfl rfl (by decide +kernel) ⟨Nat.le_of_ble_eq_true rfl, Nat.le_of_ble_eq_true rfl⟩) (mpre E0_ok hK hE hA hw (Sub1.nil _)) rfl rfl hl.1 rfl (lv_room (Nat.le_of_ble_eq_true rfl)) dX6_status_8 ⟨Nat.zero_le _, Nat.zero_le _⟩) hA hw (Sub1.nil _) (fun _ => Sub.nil _) (fun r1 u2 H locs h hw => ?_)
  obtain ⟨_, h⟩ := h
  refine lv_if_ne (tgt := 21) hx hb dX6_status_11 (by decide) (fun c28 => ?_) (fun c28 => ?_)
  · replace h := h.2 c28
    refine lv_iconst (v := (0 : Int32)) hx hb dX6_status_21 (by decide) ?_
    refine lv_istore_n (lv' := [(2, .int (0 : Int32)), (0, .ref (q 0)), (1, .int a1)]) hx hb dX6_status_22 rfl hl (by decide) rfl (fun ls hl => ?_)
    refine lv_iconst (v := (0 : Int32)) hx hb dX6_status_23 (by decide) ?_
    refine lv_istore_n (lv' := [(3, .int (0 : Int32)), (2, .int (0 : Int32)), (0, .ref (q 0)), (1, .int a1)]) hx hb dX6_status_24 rfl hl (by decide) rfl (fun ls hl => ?_)
    refine h (fun z => match z with | (x3, x4) => ∀ (H : Heap) (locs : List Loc) (ls : Array Slot), Wd g.1 A s.heap ((wM g q) (S, J)) H locs → lv_has ls 4 [(0, .ref (q 0)), (1, .int a1), (2, .int x3), (3, .int x4)] → W p l e (rmm 1 25) s m args below meth c H locs 0 0 Q (F0 m 25 ls [])) ?_ _ _ _ hw (lv_sub hl [2, 3, 1, 0] rfl)
    clear h hw hl
    rintro ⟨x3, x4⟩ h H locs ls hw hl
    refine lv_iload_n hx hb dX6_status_25 rfl (lv_at hl 3 rfl) ?_
    refine lv_bipush (v := (7 : Int32)) hx hb dX6_status_26 (by decide) ?_
    refine lv_icmp_ge (tgt := 59) hx hb dX6_status_28 (by decide) (fun c23 => ?_) (fun c23 => ?_)
    · replace h := h.1 c23
      refine lv_iload_n hx hb dX6_status_59 rfl (lv_at hl 2 rfl) ?_
      rw [hQ]
      exact mreti (w := (wM g q)) (u := (S, J)) hC hr hlocks hK hw ⟨rfl, h⟩ dX6_status_60
    · replace h := h.2 c23
      refine lv_iload_n hx hb dX6_status_31 rfl (lv_at hl 2 rfl) ?_
      refine lv_iload_n hx hb dX6_status_32 rfl (lv_at hl 1 rfl) ?_
      obtain ⟨J12, hJ13, h⟩ := h
      have join14 : ∀ (y11 : Int32) (H : Heap) (locs : List Loc) (ls : Array Slot), J12 y11 → Wd g.1 A s.heap ((wM g q) (S, J)) H locs → lv_has ls 4 [(0, .ref (q 0)), (1, .int a1), (3, .int x4)] → W p l e (rmm 1 25) s m args below meth c H locs 0 0 Q (F0 m 51 ls [.int y11, .int x3]) := by
        intro y11 H locs ls h hw hl
        replace h := hJ13 y11 h
        refine lv_iadd hx hb dX6_status_51 ?_
        refine lv_topi (fun x15 ex15 => ?_)
        replace h := h x15 ex15
        refine lv_istore_n (lv' := [(2, .int x15), (0, .ref (q 0)), (1, .int a1), (3, .int x4)]) hx hb dX6_status_52 rfl hl (by decide) rfl (fun ls hl => ?_)
        obtain ⟨x16, ex16⟩ : ∃ y : Int32, y = x4 + (1 : Int32) := ⟨_, rfl⟩
        refine lv_iinc (v := x16) (lv' := [(3, .int x16), (2, .int x15), (0, .ref (q 0)), (1, .int a1)]) hx hb dX6_status_53 hl (k := 3) rfl (by rw [ex16]; rfl) (by decide) rfl (fun ls hl => ?_)
        replace h := h x16 ex16
        refine lv_goto (tgt := 25) hx hb dX6_status_56 (by decide) ?_
        exact h _ _ _ hw (lv_sub hl [2, 3, 1, 0] rfl)
      obtain ⟨J18, hJ19, h⟩ := h
      have join20 : ∀  (H : Heap) (locs : List Loc) (ls : Array Slot), J18 () → Wd g.1 A s.heap ((wM g q) (S, J)) H locs → lv_has ls 4 [(0, .ref (q 0)), (1, .int a1), (3, .int x4)] → W p l e (rmm 1 25) s m args below meth c H locs 0 0 Q (F0 m 41 ls [.int x3]) := by
        intro  H locs ls h hw hl
        replace h := hJ19 () h
        refine lv_aload_n hx hb dX6_status_41 rfl (lv_at hl 0 rfl) ?_
        refine M_mg3 hC hinX6 hK hw (List.mem_of_getElem? (i := 4) rfl) dX6_status_42 ?_
        refine lv_iload_n hx hb dX6_status_45 rfl (lv_at hl 2 rfl) ?_
        obtain ⟨hi, h⟩ := h
        refine M_ml3 hC hK hw hi dX6_status_46 ?_
        refine lv_goto (tgt := 51) hx hb dX6_status_47 (by decide) ?_
        exact join14 (S 4 x4.toNatClampNeg) _ _ _ h hw (lv_sub hl [0, 1, 2] rfl)
      refine lv_if_lt (tgt := 41) hx hb dX6_status_33 (by decide) (fun c22 => ?_) (fun c22 => ?_)
      · replace h := h.1 c22
        exact join20  _ _ _ h hw (lv_sub hl [0, 1, 3] rfl)
      · replace h := h.2 c22
        refine lv_iload_n hx hb dX6_status_36 rfl (lv_at hl 3 rfl) ?_
        refine lv_iload_n hx hb dX6_status_37 rfl (lv_at hl 1 rfl) ?_
        refine lv_icmp_ne (tgt := 50) hx hb dX6_status_38 (by decide) (fun c21 => ?_) (fun c21 => ?_)
        · replace h := h.2 c21
          refine lv_iconst (v := (0 : Int32)) hx hb dX6_status_50 (by decide) ?_
          exact join14 (0 : Int32) _ _ _ h hw (lv_sub hl [0, 1, 3] rfl)
        · replace h := h.1 c21
          exact join20  _ _ _ h hw (lv_sub hl [0, 1, 3] rfl)
  · replace h := h.1 c28
    refine lv_aload_n hx hb dX6_status_14 rfl (lv_at hl 0 rfl) ?_
    refine lv_ldc (v := (-1000000001 : Int32)) hx hb hown (hts (.constant RX6 68 (-1000000001)) (List.mem_of_getElem? (i := 3) rfl)) dX6_status_15 ?_
    refine mcalli (w1 := (wM g q)) (va_runV (As := [.int (-1000000001 : Int32)]) (rest := []) hC (kX6_finds l g  q H.size S J (-1000000001 : Int32) _ h) (cwV 1 hts gX6_status_X6_finds rfl rfl rfl (by decide +kernel) ⟨Nat.le_of_ble_eq_true rfl, Nat.le_of_ble_eq_true rfl⟩) (mpreV E0_ok hK hE hA hw (Sub1.refl _) 0 rfl rfl) rfl rfl hl.1 rfl (lv_room (Nat.le_of_ble_eq_true rfl)) dX6_status_17 ⟨Nat.zero_le _, Nat.zero_le _⟩) hA hw (Sub1.refl _) (fun _ => Sub.whole rfl) (fun r24 u25 H locs h hw => ?_)
    obtain ⟨S26, J27⟩ := u25
    obtain ⟨hu, h⟩ := h
    replace hu : J = J27 := hu.symm
    subst hu
    rw [hQ]
    exact mreti (w := (wM g q)) (u := (S26, J)) hC hr hlocks hK hw ⟨rfl, h⟩ dX6_status_20
