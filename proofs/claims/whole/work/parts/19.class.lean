theorem up_self {α : Type} (f : Nat → α) (k : Nat) : va_up f k (f k) = f := by
  funext j
  unfold va_up
  by_cases h : j = k
  · rw [if_pos h, h]
  · rw [if_neg h]
def wX5_finding (C : Nat → Bun) (N : Nat → Lon) (a1 : Int32) (post : Int32 → (Nat → Bun) → Prop) : Prop :=
  vp_in a1 7 ∧ vp_in a1 7 ∧ ∀ C1 : Nat → Bun, C1 = va_up C 0 (up (C 0) 7 a1.toNatClampNeg ((C 0 7 a1.toNatClampNeg) + (1 : Int32))) → post ((-1000000001 : Int32) - a1) C1
set_option maxRecDepth 100000 in
set_option maxHeartbeats 4000000 in
theorem kX5_finding (l : Launch) (g : Gl) (aK : Nat → Nat) (aV : Nat → Nat) (q : Nat → Nat → Nat) (sz : Nat) (C : Nat → Bun) (N : Nat → Lon) (a1 : Int32) (post : Int32 → (Nat → Bun) → Prop) (h : wX5_finding C N a1 post) : Met l yX5_finding wsX5_finding (rmm 0 0) (wPc g (E5 aK aV) ((wC g q) (C, N)) sz [.ref (q 0 0), .int a1]) (va_Qi (fun (r : Int32) (u : (Nat → Bun) × (Nat → Lon)) => u.2 = N ∧ post r u.1) (wB g (wC g q) (va_A ((wC g q) (C, N)) sz)) (va_A ((wC g q) (C, N)) sz)) 0 0 (va_A ((wC g q) (C, N)) sz) := by
  refine mstart (Qf := fun A => va_Qi (fun (r : Int32) (u : (Nat → Bun) × (Nat → Lon)) => u.2 = N ∧ post r u.1) (wB g (wC g q) A) A) (by decide) rfl (Nat.le_of_ble_eq_true rfl) ?_
  intro p e s m args below meth c A Q H locs ls hC hr hlocks hname hQ hA hK hE hw hl
  have hC : CallFix p m c cX5_finding 2 s args wsX5_finding RX5 := hC
  obtain ⟨hx, hb, -, hown, hts⟩ := id hC
  have hl : lv_has ls 2 [(0, .ref (q 0 0)), (1, .int a1)] := hl
  rw [wX5_finding] at h
  have hinX5 : ∀ w ∈ wsX50, w ∈ wsX5_finding := fun w hw9 => List.mem_cons_of_mem _ (List.mem_append_right _ hw9)
  refine lv_aload_n hx hb dX5_finding_0 rfl (lv_at hl 0 rfl) ?_
  refine O5_g6 hC hinX5 hK (hw.sub sC1O) (List.mem_of_getElem? (i := 1) rfl) dX5_finding_1 ?_
  refine lv_iload_n hx hb dX5_finding_4 rfl (lv_at hl 1 rfl) ?_
  refine lv_dup2_11 hx hb dX5_finding_5 rfl rfl ?_
  obtain ⟨hi, h⟩ := h
  refine O5_l6 hC hK (hw.sub sC1O) hi dX5_finding_6 ?_
  refine lv_iconst (v := (1 : Int32)) hx hb dX5_finding_7 (by decide) ?_
  refine lv_iadd hx hb dX5_finding_8 ?_
  obtain ⟨hi, h⟩ := h
  refine C_s0_6 hC hK hw hi dX5_finding_9 (fun C1 H locs eC1 hw => ?_)
  replace h := h C1 eC1
  refine lv_ldcw (v := (-1000000001 : Int32)) hx hb hown (hts (.constant RX5 289 (-1000000001)) (List.mem_of_getElem? (i := 2) rfl)) dX5_finding_10 ?_
  refine lv_iload_n hx hb dX5_finding_13 rfl (lv_at hl 1 rfl) ?_
  refine lv_isub hx hb dX5_finding_14 ?_
  rw [hQ]
  exact mreti (w := (wC g q)) (u := (C1, N)) hC hr hlocks hK hw ⟨rfl, h⟩ dX5_finding_15
def wX5_field (C : Nat → Bun) (N : Nat → Lon)  (post : Int32 → (Nat → Bun) → Prop) : Prop :=
  (((C 1 0 0) < (6 : Int32) → wX1_addField (C 1)  (fun r1 S4 => ∀ C3 : Nat → Bun, C3 = va_up C 1 S4 → post r1 C3)) ∧ (¬ ((C 1 0 0) < (6 : Int32)) → wX5_finding C N (1 : Int32) (fun r5 C7 => post r5 C7)))
set_option maxRecDepth 100000 in
set_option maxHeartbeats 4000000 in
theorem kX5_field (l : Launch) (g : Gl) (aK : Nat → Nat) (aV : Nat → Nat) (q : Nat → Nat → Nat) (sz : Nat) (C : Nat → Bun) (N : Nat → Lon)  (post : Int32 → (Nat → Bun) → Prop) (h : wX5_field C N  post) : Met l yX5_field wsX5_field (rmm 2 45) (wPc g (E5 aK aV) ((wC g q) (C, N)) sz [.ref (q 0 0)]) (va_Qi (fun (r : Int32) (u : (Nat → Bun) × (Nat → Lon)) => u.2 = N ∧ post r u.1) (wB g (wC g q) (va_A ((wC g q) (C, N)) sz)) (va_A ((wC g q) (C, N)) sz)) 0 0 (va_A ((wC g q) (C, N)) sz) := by
  refine mstart (Qf := fun A => va_Qi (fun (r : Int32) (u : (Nat → Bun) × (Nat → Lon)) => u.2 = N ∧ post r u.1) (wB g (wC g q) A) A) (by decide) rfl (Nat.le_of_ble_eq_true rfl) ?_
  intro p e s m args below meth c A Q H locs ls hC hr hlocks hname hQ hA hK hE hw hl
  have hC : CallFix p m c cX5_field 1 s args wsX5_field RX5 := hC
  obtain ⟨hx, hb, -, hown, hts⟩ := id hC
  have hl : lv_has ls 1 [(0, .ref (q 0 0))] := hl
  rw [wX5_field] at h
  have hinX1 : ∀ w ∈ wsX10, w ∈ wsX5_field := fun w hw9 => List.mem_cons_of_mem _ (List.mem_append_right _ hw9)
  have hinX5 : ∀ w ∈ wsX50, w ∈ wsX5_field := fun w hw9 => List.mem_cons_of_mem _ (List.mem_append_left _ (List.mem_append_right _ hw9))
  refine lv_aload_n hx hb dX5_field_0 rfl (lv_at hl 0 rfl) ?_
  refine O5_g0 hC hinX5 hK (hw.sub sC1O) (List.mem_of_getElem? (i := 1) rfl) dX5_field_1 ?_
  refine P5_pg0 hC hinX1 hK (hw.sub (sC1P isP1)) hE.nFX5_61 dX5_field_4 ?_
  refine lv_bipush (v := (6 : Int32)) hx hb dX5_field_7 (by decide) ?_
  refine lv_icmp_lt (tgt := 18) hx hb dX5_field_9 (by decide) (fun c9 => ?_) (fun c9 => ?_)
  · replace h := h.1 c9
    refine lv_aload_n hx hb dX5_field_18 rfl (lv_at hl 0 rfl) ?_
    refine O5_g0 hC hinX5 hK (hw.sub sC1O) (List.mem_of_getElem? (i := 1) rfl) dX5_field_19 ?_
    refine mcalli (w1 := (fun u9 : Bun => wC g q (va_up C 1 u9, N))) (va_runVN (C := RX1) (As := []) (rest := []) hC (kX1_addField l g aK aV (q 1) H.size (C 1)  _ h) ⟨va_cnB 0 hts gX5_field_X1_addField_n69 rfl rfl rfl hE.nMX5_69 (hts (.initialized RX1) (List.mem_of_getElem? (i := 10) rfl)) (by decide +kernel) ⟨Nat.le_of_ble_eq_true rfl, Nat.le_of_ble_eq_true rfl⟩, (hts (.instanceMethod yX1_addField) (List.mem_of_getElem? (i := 9) rfl)), (hts (.selects RX1 yX1_addField yX1_addField) (List.mem_of_getElem? (i := 11) rfl))⟩ (mpreV (E5_ok aK aV) hK hE hA hw (sC1P isP1) 0 rfl rfl) rfl rfl hl.1 rfl (lv_room (Nat.le_of_ble_eq_true rfl)) dX5_field_22 ⟨Nat.zero_le _, Nat.zero_le _⟩) hA hw (sC1P isP1) (fun u9 => sCP isP1 u9) (fun r1 u2 H locs h hw => ?_)
    obtain ⟨S4, rfl⟩ : ∃ z, z = u2 := ⟨_, rfl⟩
    obtain ⟨C3, eC3⟩ : ∃ z, z = va_up C 1 S4 := ⟨_, rfl⟩
    replace h := h C3 eC3
    replace hw : Wd g.1 A s.heap ((wC g q) (C3, N)) H locs := by rw [eC3]; exact hw
    rw [hQ]
    exact mreti (w := (wC g q)) (u := (C3, N)) hC hr hlocks hK hw ⟨rfl, h⟩ dX5_field_25
  · replace h := h.2 c9
    refine lv_aload_n hx hb dX5_field_12 rfl (lv_at hl 0 rfl) ?_
    refine lv_iconst (v := (1 : Int32)) hx hb dX5_field_13 (by decide) ?_
    refine mcalli (w1 := (wC g q)) (va_runV (As := [.int (1 : Int32)]) (rest := []) hC (kX5_finding l g aK aV q H.size C N (1 : Int32) _ h) (cwV 1 hts gX5_field_X5_finding rfl rfl rfl (by decide +kernel) ⟨Nat.le_of_ble_eq_true rfl, Nat.le_of_ble_eq_true rfl⟩) (mpreV (E5_ok aK aV) hK hE hA hw (Sub1.refl _) 0 rfl rfl) rfl rfl hl.1 rfl (lv_room (Nat.le_of_ble_eq_true rfl)) dX5_field_14 ⟨Nat.zero_le _, Nat.zero_le _⟩) hA hw (Sub1.refl _) (fun u9 => Sub.whole (wC_map u9.1 u9.2)) (fun r5 u6 H locs h hw => ?_)
    obtain ⟨C7, N8⟩ := u6
    obtain ⟨hu, h⟩ := h
    replace hu : N = N8 := hu.symm
    subst hu
    rw [hQ]
    exact mreti (w := (wC g q)) (u := (C7, N)) hC hr hlocks hK hw ⟨rfl, h⟩ dX5_field_17
def wX5_of (C : Nat → Bun) (N : Nat → Lon) (a1 : Int32) (a2 : Int32) (post : Int32 → (Nat → Bun) → Prop) : Prop :=
  wX1_hasField (C 1) a1 (fun r1 => wjoin (σ := Unit) (fun _ => wX5_finding C N (0 : Int32) (fun r6 C8 => post r6 C8)) (fun J3 => ((r1 = 0 → J3 ()) ∧ (¬ (r1 = 0) → ((a2 < 0 → J3 ()) ∧ (¬ (a2 < 0) → ((a2 ≤ (7 : Int32) → ((a2 = (6 : Int32) → wX1_earth (C 1) a1 (fun r17 => post r17 C)) ∧ (¬ (a2 = (6 : Int32)) → ((a2 = (7 : Int32) → wX1_earth (C 1) a1 (fun r12 => wX5_coloursOf r12 (fun r14 => post r14 C))) ∧ (¬ (a2 = (7 : Int32)) → wX1_mark (C 1) a1 a2 (fun r10 => post r10 C)))))) ∧ (¬ (a2 ≤ (7 : Int32)) → J3 ()))))))))
set_option maxRecDepth 100000 in
set_option maxHeartbeats 4000000 in
theorem kX5_of (l : Launch) (g : Gl) (aK : Nat → Nat) (aV : Nat → Nat) (q : Nat → Nat → Nat) (sz : Nat) (C : Nat → Bun) (N : Nat → Lon) (a1 : Int32) (a2 : Int32) (post : Int32 → (Nat → Bun) → Prop) (h : wX5_of C N a1 a2 post) : Met l yX5_of wsX5_of (rmm 2 43) (wPc g (E5 aK aV) ((wC g q) (C, N)) sz [.ref (q 0 0), .int a1, .int a2]) (va_Qi (fun (r : Int32) (u : (Nat → Bun) × (Nat → Lon)) => u.2 = N ∧ post r u.1) (wB g (wC g q) (va_A ((wC g q) (C, N)) sz)) (va_A ((wC g q) (C, N)) sz)) 0 0 (va_A ((wC g q) (C, N)) sz) := by
  refine mstart (Qf := fun A => va_Qi (fun (r : Int32) (u : (Nat → Bun) × (Nat → Lon)) => u.2 = N ∧ post r u.1) (wB g (wC g q) A) A) (by decide) rfl (Nat.le_of_ble_eq_true rfl) ?_
  intro p e s m args below meth c A Q H locs ls hC hr hlocks hname hQ hA hK hE hw hl
  have hC : CallFix p m c cX5_of 3 s args wsX5_of RX5 := hC
  obtain ⟨hx, hb, -, hown, hts⟩ := id hC
  have hl : lv_has ls 3 [(0, .ref (q 0 0)), (1, .int a1), (2, .int a2)] := hl
  rw [wX5_of] at h
  have hinX5 : ∀ w ∈ wsX50, w ∈ wsX5_of := fun w hw9 => List.mem_cons_of_mem _ (List.mem_append_left _ (List.mem_append_right _ hw9))
  refine lv_aload_n hx hb dX5_of_0 rfl (lv_at hl 0 rfl) ?_
  refine O5_g0 hC hinX5 hK (hw.sub sC1O) (List.mem_of_getElem? (i := 1) rfl) dX5_of_1 ?_
  refine lv_iload_n hx hb dX5_of_4 rfl (lv_at hl 1 rfl) ?_
  refine mcalli (w1 := (fun u9 : Bun => wC g q (va_up C 1 u9, N))) (va_runVN (C := RX1) (As := [.int a1]) (rest := []) hC (kX1_hasField l g aK aV (q 1) H.size (C 1) a1 _ h) ⟨va_cnB 1 hts gX5_of_X1_hasField_n73 rfl rfl rfl hE.nMX5_73 (hts (.initialized RX1) (List.mem_of_getElem? (i := 3) rfl)) (by decide +kernel) ⟨Nat.le_of_ble_eq_true rfl, Nat.le_of_ble_eq_true rfl⟩, (hts (.instanceMethod yX1_hasField) (List.mem_of_getElem? (i := 2) rfl)), (hts (.selects RX1 yX1_hasField yX1_hasField) (List.mem_of_getElem? (i := 4) rfl))⟩ (mpreV (E5_ok aK aV) hK hE hA hw (sC1P isP1) 0 rfl rfl) rfl rfl hl.1 rfl (lv_room (Nat.le_of_ble_eq_true rfl)) dX5_of_5 ⟨Nat.zero_le _, Nat.zero_le _⟩) hA hw (sC1P isP1) (fun u9 => sCP isP1 u9) (fun r1 u2 H locs h hw => ?_)
  obtain ⟨hu, h⟩ := h
  replace hu := hu.symm
  subst hu
  replace hw : Wd g.1 A s.heap ((wC g q) (C, N)) H locs := by first | exact hw | (simpa only [up_self] using hw)
  obtain ⟨J3, hJ4, h⟩ := h
  have join5 : ∀  (H : Heap) (locs : List Loc) (ls : Array Slot), J3 () → Wd g.1 A s.heap ((wC g q) (C, N)) H locs → lv_has ls 3 [(0, .ref (q 0 0))] → W p l e (rmm 2 43) s m args below meth c H locs 0 0 Q (F0 m 21 ls []) := by
    intro  H locs ls h hw hl
    replace h := hJ4 () h
    refine lv_aload_n hx hb dX5_of_21 rfl (lv_at hl 0 rfl) ?_
    refine lv_iconst (v := (0 : Int32)) hx hb dX5_of_22 (by decide) ?_
    refine mcalli (w1 := (wC g q)) (va_runV (As := [.int (0 : Int32)]) (rest := []) hC (kX5_finding l g aK aV q H.size C N (0 : Int32) _ h) (cwV 1 hts gX5_of_X5_finding rfl rfl rfl (by decide +kernel) ⟨Nat.le_of_ble_eq_true rfl, Nat.le_of_ble_eq_true rfl⟩) (mpreV (E5_ok aK aV) hK hE hA hw (Sub1.refl _) 0 rfl rfl) rfl rfl hl.1 rfl (lv_room (Nat.le_of_ble_eq_true rfl)) dX5_of_23 ⟨Nat.zero_le _, Nat.zero_le _⟩) hA hw (Sub1.refl _) (fun u9 => Sub.whole (wC_map u9.1 u9.2)) (fun r6 u7 H locs h hw => ?_)
    obtain ⟨C8, N9⟩ := u7
    obtain ⟨hu, h⟩ := h
    replace hu : N = N9 := hu.symm
    subst hu
    rw [hQ]
    exact mreti (w := (wC g q)) (u := (C8, N)) hC hr hlocks hK hw ⟨rfl, h⟩ dX5_of_26
  refine lv_if_eq (tgt := 21) hx hb dX5_of_8 (by decide) (fun c22 => ?_) (fun c22 => ?_)
  · replace h := h.1 c22
    exact join5  _ _ _ h hw (lv_sub hl [0] rfl)
  · replace h := h.2 c22
    refine lv_iload_n hx hb dX5_of_11 rfl (lv_at hl 2 rfl) ?_
    refine lv_if_lt (tgt := 21) hx hb dX5_of_12 (by decide) (fun c21 => ?_) (fun c21 => ?_)
    · replace h := h.1 c21
      exact join5  _ _ _ h hw (lv_sub hl [0] rfl)
    · replace h := h.2 c21
      refine lv_iload_n hx hb dX5_of_15 rfl (lv_at hl 2 rfl) ?_
      refine lv_bipush (v := (7 : Int32)) hx hb dX5_of_16 (by decide) ?_
      refine lv_icmp_le (tgt := 27) hx hb dX5_of_18 (by decide) (fun c20 => ?_) (fun c20 => ?_)
      · replace h := h.1 c20
        refine lv_iload_n hx hb dX5_of_27 rfl (lv_at hl 2 rfl) ?_
        refine lv_bipush (v := (6 : Int32)) hx hb dX5_of_28 (by decide) ?_
        refine lv_icmp_ne (tgt := 42) hx hb dX5_of_30 (by decide) (fun c19 => ?_) (fun c19 => ?_)
        · replace h := h.2 c19
          refine lv_iload_n hx hb dX5_of_42 rfl (lv_at hl 2 rfl) ?_
          refine lv_bipush (v := (7 : Int32)) hx hb dX5_of_43 (by decide) ?_
          refine lv_icmp_ne (tgt := 62) hx hb dX5_of_45 (by decide) (fun c16 => ?_) (fun c16 => ?_)
          · replace h := h.2 c16
            refine lv_aload_n hx hb dX5_of_62 rfl (lv_at hl 0 rfl) ?_
            refine O5_g0 hC hinX5 hK (hw.sub sC1O) (List.mem_of_getElem? (i := 1) rfl) dX5_of_63 ?_
            refine lv_iload_n hx hb dX5_of_66 rfl (lv_at hl 1 rfl) ?_
            refine lv_iload_n hx hb dX5_of_67 rfl (lv_at hl 2 rfl) ?_
            refine mcalli (w1 := (fun u9 : Bun => wC g q (va_up C 1 u9, N))) (va_runVN (C := RX1) (As := [.int a1, .int a2]) (rest := []) hC (kX1_mark l g aK aV (q 1) H.size (C 1) a1 a2 _ h) ⟨va_cnB 2 hts gX5_of_X1_mark_n83 rfl rfl rfl hE.nMX5_83 (hts (.initialized RX1) (List.mem_of_getElem? (i := 3) rfl)) (by decide +kernel) ⟨Nat.le_of_ble_eq_true rfl, Nat.le_of_ble_eq_true rfl⟩, (hts (.instanceMethod yX1_mark) (List.mem_of_getElem? (i := 19) rfl)), (hts (.selects RX1 yX1_mark yX1_mark) (List.mem_of_getElem? (i := 20) rfl))⟩ (mpreV (E5_ok aK aV) hK hE hA hw (sC1P isP1) 0 rfl rfl) rfl rfl hl.1 rfl (lv_room (Nat.le_of_ble_eq_true rfl)) dX5_of_68 ⟨Nat.zero_le _, Nat.zero_le _⟩) hA hw (sC1P isP1) (fun u9 => sCP isP1 u9) (fun r10 u11 H locs h hw => ?_)
            obtain ⟨hu, h⟩ := h
            replace hu := hu.symm
            subst hu
            replace hw : Wd g.1 A s.heap ((wC g q) (C, N)) H locs := by first | exact hw | (simpa only [up_self] using hw)
            rw [hQ]
            exact mreti (w := (wC g q)) (u := (C, N)) hC hr hlocks hK hw ⟨rfl, h⟩ dX5_of_71
          · replace h := h.1 c16
            refine lv_aload_n hx hb dX5_of_48 rfl (lv_at hl 0 rfl) ?_
            refine O5_g0 hC hinX5 hK (hw.sub sC1O) (List.mem_of_getElem? (i := 1) rfl) dX5_of_49 ?_
            refine lv_iload_n hx hb dX5_of_52 rfl (lv_at hl 1 rfl) ?_
            refine mcalli (w1 := (fun u9 : Bun => wC g q (va_up C 1 u9, N))) (va_runVN (C := RX1) (As := [.int a1]) (rest := []) hC (kX1_earth l g aK aV (q 1) H.size (C 1) a1 _ h) ⟨va_cnB 1 hts gX5_of_X1_earth_n77 rfl rfl rfl hE.nMX5_77 (hts (.initialized RX1) (List.mem_of_getElem? (i := 3) rfl)) (by decide +kernel) ⟨Nat.le_of_ble_eq_true rfl, Nat.le_of_ble_eq_true rfl⟩, (hts (.instanceMethod yX1_earth) (List.mem_of_getElem? (i := 14) rfl)), (hts (.selects RX1 yX1_earth yX1_earth) (List.mem_of_getElem? (i := 15) rfl))⟩ (mpreV (E5_ok aK aV) hK hE hA hw (sC1P isP1) 0 rfl rfl) rfl rfl hl.1 rfl (lv_room (Nat.le_of_ble_eq_true rfl)) dX5_of_53 ⟨Nat.zero_le _, Nat.zero_le _⟩) hA hw (sC1P isP1) (fun u9 => sCP isP1 u9) (fun r12 u13 H locs h hw => ?_)
            obtain ⟨hu, h⟩ := h
            replace hu := hu.symm
            subst hu
            replace hw : Wd g.1 A s.heap ((wC g q) (C, N)) H locs := by first | exact hw | (simpa only [up_self] using hw)
            refine mcalli (w1 := (fun _ => (wC g q) (C, N))) (wc := fun _ : Unit => ([] : va_W)) (u := ()) (va_runS (As := [.int r12]) (rest := []) hC (kX5_coloursOf l g aK aV H.size r12 _ h) (va_cwS 1 hts gX5_of_X5_coloursOf rfl rfl rfl (by decide +kernel) ⟨Nat.le_of_ble_eq_true rfl, Nat.le_of_ble_eq_true rfl⟩) (mpre (E5_ok aK aV) hK hE hA hw (Sub1.nil _)) rfl rfl hl.1 rfl (lv_room (Nat.le_of_ble_eq_true rfl)) dX5_of_56 ⟨Nat.zero_le _, Nat.zero_le _⟩) hA hw (Sub1.nil _) (fun _ => Sub.nil _) (fun r14 u15 H locs h hw => ?_)
            obtain ⟨_, h⟩ := h
            refine lv_goto (tgt := 71) hx hb dX5_of_59 (by decide) ?_
            rw [hQ]
            exact mreti (w := (wC g q)) (u := (C, N)) hC hr hlocks hK hw ⟨rfl, h⟩ dX5_of_71
        · replace h := h.1 c19
          refine lv_aload_n hx hb dX5_of_33 rfl (lv_at hl 0 rfl) ?_
          refine O5_g0 hC hinX5 hK (hw.sub sC1O) (List.mem_of_getElem? (i := 1) rfl) dX5_of_34 ?_
          refine lv_iload_n hx hb dX5_of_37 rfl (lv_at hl 1 rfl) ?_
          refine mcalli (w1 := (fun u9 : Bun => wC g q (va_up C 1 u9, N))) (va_runVN (C := RX1) (As := [.int a1]) (rest := []) hC (kX1_earth l g aK aV (q 1) H.size (C 1) a1 _ h) ⟨va_cnB 1 hts gX5_of_X1_earth_n77 rfl rfl rfl hE.nMX5_77 (hts (.initialized RX1) (List.mem_of_getElem? (i := 3) rfl)) (by decide +kernel) ⟨Nat.le_of_ble_eq_true rfl, Nat.le_of_ble_eq_true rfl⟩, (hts (.instanceMethod yX1_earth) (List.mem_of_getElem? (i := 14) rfl)), (hts (.selects RX1 yX1_earth yX1_earth) (List.mem_of_getElem? (i := 15) rfl))⟩ (mpreV (E5_ok aK aV) hK hE hA hw (sC1P isP1) 0 rfl rfl) rfl rfl hl.1 rfl (lv_room (Nat.le_of_ble_eq_true rfl)) dX5_of_38 ⟨Nat.zero_le _, Nat.zero_le _⟩) hA hw (sC1P isP1) (fun u9 => sCP isP1 u9) (fun r17 u18 H locs h hw => ?_)
          obtain ⟨hu, h⟩ := h
          replace hu := hu.symm
          subst hu
          replace hw : Wd g.1 A s.heap ((wC g q) (C, N)) H locs := by first | exact hw | (simpa only [up_self] using hw)
          rw [hQ]
          exact mreti (w := (wC g q)) (u := (C, N)) hC hr hlocks hK hw ⟨rfl, h⟩ dX5_of_41
      · replace h := h.2 c20
        exact join5  _ _ _ h hw (lv_sub hl [0] rfl)
def wX5_set (C : Nat → Bun) (N : Nat → Lon) (a1 : Int32) (a2 : Int32) (a3 : Int32) (post : Int32 → (Nat → Bun) → Prop) : Prop :=
  wX1_hasField (C 1) a1 (fun r1 => wjoin (σ := Unit) (fun _ => wX5_finding C N (0 : Int32) (fun r6 C8 => post r6 C8)) (fun J3 => ((r1 = 0 → J3 ()) ∧ (¬ (r1 = 0) → ((a2 < 0 → J3 ()) ∧ (¬ (a2 < 0) → ((a2 ≤ (5 : Int32) → vp_in a2 6 ∧ wjoin (σ := Unit) (fun _ => wX5_finding C N (0 : Int32) (fun r14 C16 => post r14 C16)) (fun J11 => ((a3 < (tbLeast a2.toNatClampNeg) → J11 ()) ∧ (¬ (a3 < (tbLeast a2.toNatClampNeg)) → vp_in a2 6 ∧ ((a3 ≤ (tbMost a2.toNatClampNeg) → wX1_mark (C 1) a1 a2 (fun r19 => wX1_putMark (C 1) a1 a2 a3 (fun S24 => ∀ C23 : Nat → Bun, C23 = va_up C 1 S24 → post r19 C23))) ∧ (¬ (a3 ≤ (tbMost a2.toNatClampNeg)) → J11 ())))))) ∧ (¬ (a2 ≤ (5 : Int32)) → J3 ()))))))))
set_option maxRecDepth 100000 in
set_option maxHeartbeats 4000000 in
theorem kX5_set (l : Launch) (g : Gl) (aK : Nat → Nat) (aV : Nat → Nat) (q : Nat → Nat → Nat) (sz : Nat) (C : Nat → Bun) (N : Nat → Lon) (a1 : Int32) (a2 : Int32) (a3 : Int32) (post : Int32 → (Nat → Bun) → Prop) (h : wX5_set C N a1 a2 a3 post) : Met l yX5_set wsX5_set (rmm 1 23) (wPc g (E5 aK aV) ((wC g q) (C, N)) sz [.ref (q 0 0), .int a1, .int a2, .int a3]) (va_Qi (fun (r : Int32) (u : (Nat → Bun) × (Nat → Lon)) => u.2 = N ∧ post r u.1) (wB g (wC g q) (va_A ((wC g q) (C, N)) sz)) (va_A ((wC g q) (C, N)) sz)) 0 0 (va_A ((wC g q) (C, N)) sz) := by
  refine mstart (Qf := fun A => va_Qi (fun (r : Int32) (u : (Nat → Bun) × (Nat → Lon)) => u.2 = N ∧ post r u.1) (wB g (wC g q) A) A) (by decide) rfl (Nat.le_of_ble_eq_true rfl) ?_
  intro p e s m args below meth c A Q H locs ls hC hr hlocks hname hQ hA hK hE hw hl
  have hC : CallFix p m c cX5_set 5 s args wsX5_set RX5 := hC
  obtain ⟨hx, hb, -, hown, hts⟩ := id hC
  have hl : lv_has ls 5 [(0, .ref (q 0 0)), (1, .int a1), (2, .int a2), (3, .int a3)] := hl
  rw [wX5_set] at h
  have hinX5 : ∀ w ∈ wsX50, w ∈ wsX5_set := fun w hw9 => List.mem_cons_of_mem _ (List.mem_append_left _ (List.mem_append_right _ hw9))
  refine lv_aload_n hx hb dX5_set_0 rfl (lv_at hl 0 rfl) ?_
  refine O5_g0 hC hinX5 hK (hw.sub sC1O) (List.mem_of_getElem? (i := 1) rfl) dX5_set_1 ?_
  refine lv_iload_n hx hb dX5_set_4 rfl (lv_at hl 1 rfl) ?_
  refine mcalli (w1 := (fun u9 : Bun => wC g q (va_up C 1 u9, N))) (va_runVN (C := RX1) (As := [.int a1]) (rest := []) hC (kX1_hasField l g aK aV (q 1) H.size (C 1) a1 _ h) ⟨va_cnB 1 hts gX5_set_X1_hasField_n73 rfl rfl rfl hE.nMX5_73 (hts (.initialized RX1) (List.mem_of_getElem? (i := 5) rfl)) (by decide +kernel) ⟨Nat.le_of_ble_eq_true rfl, Nat.le_of_ble_eq_true rfl⟩, (hts (.instanceMethod yX1_hasField) (List.mem_of_getElem? (i := 4) rfl)), (hts (.selects RX1 yX1_hasField yX1_hasField) (List.mem_of_getElem? (i := 6) rfl))⟩ (mpreV (E5_ok aK aV) hK hE hA hw (sC1P isP1) 0 rfl rfl) rfl rfl hl.1 rfl (lv_room (Nat.le_of_ble_eq_true rfl)) dX5_set_5 ⟨Nat.zero_le _, Nat.zero_le _⟩) hA hw (sC1P isP1) (fun u9 => sCP isP1 u9) (fun r1 u2 H locs h hw => ?_)
  obtain ⟨hu, h⟩ := h
  replace hu := hu.symm
  subst hu
  replace hw : Wd g.1 A s.heap ((wC g q) (C, N)) H locs := by first | exact hw | (simpa only [up_self] using hw)
  obtain ⟨J3, hJ4, h⟩ := h
  have join5 : ∀  (H : Heap) (locs : List Loc) (ls : Array Slot), J3 () → Wd g.1 A s.heap ((wC g q) (C, N)) H locs → lv_has ls 5 [(0, .ref (q 0 0))] → W p l e (rmm 1 23) s m args below meth c H locs 0 0 Q (F0 m 20 ls []) := by
    intro  H locs ls h hw hl
    replace h := hJ4 () h
    refine lv_aload_n hx hb dX5_set_20 rfl (lv_at hl 0 rfl) ?_
    refine lv_iconst (v := (0 : Int32)) hx hb dX5_set_21 (by decide) ?_
    refine mcalli (w1 := (wC g q)) (va_runV (As := [.int (0 : Int32)]) (rest := []) hC (kX5_finding l g aK aV q H.size C N (0 : Int32) _ h) (cwV 1 hts gX5_set_X5_finding rfl rfl rfl (by decide +kernel) ⟨Nat.le_of_ble_eq_true rfl, Nat.le_of_ble_eq_true rfl⟩) (mpreV (E5_ok aK aV) hK hE hA hw (Sub1.refl _) 0 rfl rfl) rfl rfl hl.1 rfl (lv_room (Nat.le_of_ble_eq_true rfl)) dX5_set_22 ⟨Nat.zero_le _, Nat.zero_le _⟩) hA hw (Sub1.refl _) (fun u9 => Sub.whole (wC_map u9.1 u9.2)) (fun r6 u7 H locs h hw => ?_)
    obtain ⟨C8, N9⟩ := u7
    obtain ⟨hu, h⟩ := h
    replace hu : N = N9 := hu.symm
    subst hu
    rw [hQ]
    exact mreti (w := (wC g q)) (u := (C8, N)) hC hr hlocks hK hw ⟨rfl, h⟩ dX5_set_25
  refine lv_if_eq (tgt := 20) hx hb dX5_set_8 (by decide) (fun c29 => ?_) (fun c29 => ?_)
  · replace h := h.1 c29
    exact join5  _ _ _ h hw (lv_sub hl [0] rfl)
  · replace h := h.2 c29
    refine lv_iload_n hx hb dX5_set_11 rfl (lv_at hl 2 rfl) ?_
    refine lv_if_lt (tgt := 20) hx hb dX5_set_12 (by decide) (fun c28 => ?_) (fun c28 => ?_)
    · replace h := h.1 c28
      exact join5  _ _ _ h hw (lv_sub hl [0] rfl)
    · replace h := h.2 c28
      refine lv_iload_n hx hb dX5_set_15 rfl (lv_at hl 2 rfl) ?_
      refine lv_iconst (v := (5 : Int32)) hx hb dX5_set_16 (by decide) ?_
      refine lv_icmp_le (tgt := 26) hx hb dX5_set_17 (by decide) (fun c27 => ?_) (fun c27 => ?_)
      · replace h := h.1 c27
        refine lv_iload_n hx hb dX5_set_26 rfl (lv_at hl 3 rfl) ?_
        obtain ⟨t10, hZt10, hTt10⟩ := hE.tbLeast
        refine va_gets hx hb hZt10 hw.2.2 hown (hts (.fieldLink RX5 87 "OneFurrow" "LEAST_MARK" "[I") (List.mem_of_getElem? (i := 2) rfl)) (fun _ h9 => h9) dX5_set_27 ?_
        refine lv_iload_n hx hb dX5_set_30 rfl (lv_at hl 2 rfl) ?_
        obtain ⟨hi, h⟩ := h
        refine va_ti hx hb hTt10 hw.2.2 hi rfl dX5_set_31 ?_
        obtain ⟨J11, hJ12, h⟩ := h
        have join13 : ∀  (H : Heap) (locs : List Loc) (ls : Array Slot), J11 () → Wd g.1 A s.heap ((wC g q) (C, N)) H locs → lv_has ls 5 [(0, .ref (q 0 0))] → W p l e (rmm 1 23) s m args below meth c H locs 0 0 Q (F0 m 44 ls []) := by
          intro  H locs ls h hw hl
          replace h := hJ12 () h
          refine lv_aload_n hx hb dX5_set_44 rfl (lv_at hl 0 rfl) ?_
          refine lv_iconst (v := (0 : Int32)) hx hb dX5_set_45 (by decide) ?_
          refine mcalli (w1 := (wC g q)) (va_runV (As := [.int (0 : Int32)]) (rest := []) hC (kX5_finding l g aK aV q H.size C N (0 : Int32) _ h) (cwV 1 hts gX5_set_X5_finding rfl rfl rfl (by decide +kernel) ⟨Nat.le_of_ble_eq_true rfl, Nat.le_of_ble_eq_true rfl⟩) (mpreV (E5_ok aK aV) hK hE hA hw (Sub1.refl _) 0 rfl rfl) rfl rfl hl.1 rfl (lv_room (Nat.le_of_ble_eq_true rfl)) dX5_set_46 ⟨Nat.zero_le _, Nat.zero_le _⟩) hA hw (Sub1.refl _) (fun u9 => Sub.whole (wC_map u9.1 u9.2)) (fun r14 u15 H locs h hw => ?_)
          obtain ⟨C16, N17⟩ := u15
          obtain ⟨hu, h⟩ := h
          replace hu : N = N17 := hu.symm
          subst hu
          rw [hQ]
          exact mreti (w := (wC g q)) (u := (C16, N)) hC hr hlocks hK hw ⟨rfl, h⟩ dX5_set_49
        refine lv_icmp_lt (tgt := 44) hx hb dX5_set_32 (by decide) (fun c26 => ?_) (fun c26 => ?_)
        · replace h := h.1 c26
          exact join13  _ _ _ h hw (lv_sub hl [0] rfl)
        · replace h := h.2 c26
          refine lv_iload_n hx hb dX5_set_35 rfl (lv_at hl 3 rfl) ?_
          obtain ⟨t18, hZt18, hTt18⟩ := hE.tbMost
          refine va_gets hx hb hZt18 hw.2.2 hown (hts (.fieldLink RX5 90 "OneFurrow" "MOST_MARK" "[I") (List.mem_of_getElem? (i := 3) rfl)) (fun _ h9 => h9) dX5_set_36 ?_
          refine lv_iload_n hx hb dX5_set_39 rfl (lv_at hl 2 rfl) ?_
          obtain ⟨hi, h⟩ := h
          refine va_ti hx hb hTt18 hw.2.2 hi rfl dX5_set_40 ?_
          refine lv_icmp_le (tgt := 50) hx hb dX5_set_41 (by decide) (fun c25 => ?_) (fun c25 => ?_)
          · replace h := h.1 c25
            refine lv_aload_n hx hb dX5_set_50 rfl (lv_at hl 0 rfl) ?_
            refine O5_g0 hC hinX5 hK (hw.sub sC1O) (List.mem_of_getElem? (i := 1) rfl) dX5_set_51 ?_
            refine lv_iload_n hx hb dX5_set_54 rfl (lv_at hl 1 rfl) ?_
            refine lv_iload_n hx hb dX5_set_55 rfl (lv_at hl 2 rfl) ?_
            refine mcalli (w1 := (fun u9 : Bun => wC g q (va_up C 1 u9, N))) (va_runVN (C := RX1) (As := [.int a1, .int a2]) (rest := []) hC (kX1_mark l g aK aV (q 1) H.size (C 1) a1 a2 _ h) ⟨va_cnB 2 hts gX5_set_X1_mark_n83 rfl rfl rfl hE.nMX5_83 (hts (.initialized RX1) (List.mem_of_getElem? (i := 5) rfl)) (by decide +kernel) ⟨Nat.le_of_ble_eq_true rfl, Nat.le_of_ble_eq_true rfl⟩, (hts (.instanceMethod yX1_mark) (List.mem_of_getElem? (i := 16) rfl)), (hts (.selects RX1 yX1_mark yX1_mark) (List.mem_of_getElem? (i := 17) rfl))⟩ (mpreV (E5_ok aK aV) hK hE hA hw (sC1P isP1) 0 rfl rfl) rfl rfl hl.1 rfl (lv_room (Nat.le_of_ble_eq_true rfl)) dX5_set_56 ⟨Nat.zero_le _, Nat.zero_le _⟩) hA hw (sC1P isP1) (fun u9 => sCP isP1 u9) (fun r19 u20 H locs h hw => ?_)
            obtain ⟨hu, h⟩ := h
            replace hu := hu.symm
            subst hu
            replace hw : Wd g.1 A s.heap ((wC g q) (C, N)) H locs := by first | exact hw | (simpa only [up_self] using hw)
            refine lv_istore (lv' := [(4, .int r19), (0, .ref (q 0 0)), (1, .int a1), (2, .int a2), (3, .int a3)]) hx hb dX5_set_59 hl (by decide) rfl (fun ls hl => ?_)
            refine lv_aload_n hx hb dX5_set_61 rfl (lv_at hl 1 rfl) ?_
            refine O5_g0 hC hinX5 hK (hw.sub sC1O) (List.mem_of_getElem? (i := 1) rfl) dX5_set_62 ?_
            refine lv_iload_n hx hb dX5_set_65 rfl (lv_at hl 2 rfl) ?_
            refine lv_iload_n hx hb dX5_set_66 rfl (lv_at hl 3 rfl) ?_
            refine lv_iload_n hx hb dX5_set_67 rfl (lv_at hl 4 rfl) ?_
            refine mcallv (w1 := (fun u9 : Bun => wC g q (va_up C 1 u9, N))) (va_runVN (C := RX1) (As := [.int a1, .int a2, .int a3]) (rest := []) hC (kX1_putMark l g aK aV (q 1) H.size (C 1) a1 a2 a3 _ h) ⟨va_cnB 3 hts gX5_set_X1_putMark_n93 rfl rfl rfl hE.nMX5_93 (hts (.initialized RX1) (List.mem_of_getElem? (i := 5) rfl)) (by decide +kernel) ⟨Nat.le_of_ble_eq_true rfl, Nat.le_of_ble_eq_true rfl⟩, (hts (.instanceMethod yX1_putMark) (List.mem_of_getElem? (i := 20) rfl)), (hts (.selects RX1 yX1_putMark yX1_putMark) (List.mem_of_getElem? (i := 21) rfl))⟩ (mpreV (E5_ok aK aV) hK hE hA hw (sC1P isP1) 0 rfl rfl) rfl rfl hl.1 rfl (lv_room (Nat.le_of_ble_eq_true rfl)) dX5_set_68 ⟨Nat.zero_le _, Nat.zero_le _⟩) hA hw (sC1P isP1) (fun u9 => sCP isP1 u9) (fun u22 H locs h hw => ?_)
            obtain ⟨S24, rfl⟩ : ∃ z, z = u22 := ⟨_, rfl⟩
            obtain ⟨C23, eC23⟩ : ∃ z, z = va_up C 1 S24 := ⟨_, rfl⟩
            replace h := h C23 eC23
            replace hw : Wd g.1 A s.heap ((wC g q) (C23, N)) H locs := by rw [eC23]; exact hw
            refine lv_iload hx hb dX5_set_71 (lv_at hl 0 rfl) ?_
            rw [hQ]
            exact mreti (w := (wC g q)) (u := (C23, N)) hC hr hlocks hK hw ⟨rfl, h⟩ dX5_set_73
          · replace h := h.2 c25
            exact join13  _ _ _ h hw (lv_sub hl [0] rfl)
      · replace h := h.2 c27
        exact join5  _ _ _ h hw (lv_sub hl [0] rfl)
def wX5_join (C : Nat → Bun) (N : Nat → Lon) (a1 : Int32) (a2 : Int32) (a3 : Int32) (post : Int32 → (Nat → Bun) → Prop) : Prop :=
  wX1_hasField (C 1) a1 (fun r1 => wjoin (σ := Unit) (fun _ => wX5_finding C N (0 : Int32) (fun r6 C8 => post r6 C8)) (fun J3 => ((r1 = 0 → J3 ()) ∧ (¬ (r1 = 0) → wX1_hasField (C 1) a2 (fun r10 => ((r10 = 0 → J3 ()) ∧ (¬ (r10 = 0) → ((a1 = a2 → J3 ()) ∧ (¬ (a1 = a2) → vp_in a1 6 ∧ wX5_holds (C 1 4 a1.toNatClampNeg) a2 (fun r12 => ((r12 = a3 → post (0 : Int32) C) ∧ (¬ (r12 = a3) → vp_in a1 6 ∧ vp_in a1 6 ∧ ∀ C14 : Nat → Bun, C14 = va_up C 1 (up (C 1) 4 a1.toNatClampNeg ((C 1 4 a1.toNatClampNeg) ^^^ ((1 : Int32) <<< (a2 &&& 31)))) → post (1 : Int32) C14))))))))))))
set_option maxRecDepth 100000 in
set_option maxHeartbeats 4000000 in
theorem kX5_join (l : Launch) (g : Gl) (aK : Nat → Nat) (aV : Nat → Nat) (q : Nat → Nat → Nat) (sz : Nat) (C : Nat → Bun) (N : Nat → Lon) (a1 : Int32) (a2 : Int32) (a3 : Int32) (post : Int32 → (Nat → Bun) → Prop) (h : wX5_join C N a1 a2 a3 post) : Met l yX5_join wsX5_join (rmm 1 21) (wPc g (E5 aK aV) ((wC g q) (C, N)) sz [.ref (q 0 0), .int a1, .int a2, .int a3]) (va_Qi (fun (r : Int32) (u : (Nat → Bun) × (Nat → Lon)) => u.2 = N ∧ post r u.1) (wB g (wC g q) (va_A ((wC g q) (C, N)) sz)) (va_A ((wC g q) (C, N)) sz)) 0 0 (va_A ((wC g q) (C, N)) sz) := by
  refine mstart (Qf := fun A => va_Qi (fun (r : Int32) (u : (Nat → Bun) × (Nat → Lon)) => u.2 = N ∧ post r u.1) (wB g (wC g q) A) A) (by decide) rfl (Nat.le_of_ble_eq_true rfl) ?_
  intro p e s m args below meth c A Q H locs ls hC hr hlocks hname hQ hA hK hE hw hl
  have hC : CallFix p m c cX5_join 4 s args wsX5_join RX5 := hC
  obtain ⟨hx, hb, -, hown, hts⟩ := id hC
  have hl : lv_has ls 4 [(0, .ref (q 0 0)), (1, .int a1), (2, .int a2), (3, .int a3)] := hl
  rw [wX5_join] at h
  have hinX1 : ∀ w ∈ wsX10, w ∈ wsX5_join := fun w hw9 => List.mem_cons_of_mem _ (List.mem_append_right _ hw9)
  have hinX5 : ∀ w ∈ wsX50, w ∈ wsX5_join := fun w hw9 => List.mem_cons_of_mem _ (List.mem_append_left _ (List.mem_append_right _ hw9))
  refine lv_aload_n hx hb dX5_join_0 rfl (lv_at hl 0 rfl) ?_
  refine O5_g0 hC hinX5 hK (hw.sub sC1O) (List.mem_of_getElem? (i := 1) rfl) dX5_join_1 ?_
  refine lv_iload_n hx hb dX5_join_4 rfl (lv_at hl 1 rfl) ?_
  refine mcalli (w1 := (fun u9 : Bun => wC g q (va_up C 1 u9, N))) (va_runVN (C := RX1) (As := [.int a1]) (rest := []) hC (kX1_hasField l g aK aV (q 1) H.size (C 1) a1 _ h) ⟨va_cnB 1 hts gX5_join_X1_hasField_n73 rfl rfl rfl hE.nMX5_73 (hts (.initialized RX1) (List.mem_of_getElem? (i := 3) rfl)) (by decide +kernel) ⟨Nat.le_of_ble_eq_true rfl, Nat.le_of_ble_eq_true rfl⟩, (hts (.instanceMethod yX1_hasField) (List.mem_of_getElem? (i := 2) rfl)), (hts (.selects RX1 yX1_hasField yX1_hasField) (List.mem_of_getElem? (i := 4) rfl))⟩ (mpreV (E5_ok aK aV) hK hE hA hw (sC1P isP1) 0 rfl rfl) rfl rfl hl.1 rfl (lv_room (Nat.le_of_ble_eq_true rfl)) dX5_join_5 ⟨Nat.zero_le _, Nat.zero_le _⟩) hA hw (sC1P isP1) (fun u9 => sCP isP1 u9) (fun r1 u2 H locs h hw => ?_)
  obtain ⟨hu, h⟩ := h
  replace hu := hu.symm
  subst hu
  replace hw : Wd g.1 A s.heap ((wC g q) (C, N)) H locs := by first | exact hw | (simpa only [up_self] using hw)
  obtain ⟨J3, hJ4, h⟩ := h
  have join5 : ∀  (H : Heap) (locs : List Loc) (ls : Array Slot), J3 () → Wd g.1 A s.heap ((wC g q) (C, N)) H locs → lv_has ls 4 [(0, .ref (q 0 0))] → W p l e (rmm 1 21) s m args below meth c H locs 0 0 Q (F0 m 27 ls []) := by
    intro  H locs ls h hw hl
    replace h := hJ4 () h
    refine lv_aload_n hx hb dX5_join_27 rfl (lv_at hl 0 rfl) ?_
    refine lv_iconst (v := (0 : Int32)) hx hb dX5_join_28 (by decide) ?_
    refine mcalli (w1 := (wC g q)) (va_runV (As := [.int (0 : Int32)]) (rest := []) hC (kX5_finding l g aK aV q H.size C N (0 : Int32) _ h) (cwV 1 hts gX5_join_X5_finding rfl rfl rfl (by decide +kernel) ⟨Nat.le_of_ble_eq_true rfl, Nat.le_of_ble_eq_true rfl⟩) (mpreV (E5_ok aK aV) hK hE hA hw (Sub1.refl _) 0 rfl rfl) rfl rfl hl.1 rfl (lv_room (Nat.le_of_ble_eq_true rfl)) dX5_join_29 ⟨Nat.zero_le _, Nat.zero_le _⟩) hA hw (Sub1.refl _) (fun u9 => Sub.whole (wC_map u9.1 u9.2)) (fun r6 u7 H locs h hw => ?_)
    obtain ⟨C8, N9⟩ := u7
    obtain ⟨hu, h⟩ := h
    replace hu : N = N9 := hu.symm
    subst hu
    rw [hQ]
    exact mreti (w := (wC g q)) (u := (C8, N)) hC hr hlocks hK hw ⟨rfl, h⟩ dX5_join_32
  refine lv_if_eq (tgt := 27) hx hb dX5_join_8 (by decide) (fun c18 => ?_) (fun c18 => ?_)
  · replace h := h.1 c18
    exact join5  _ _ _ h hw (lv_sub hl [0] rfl)
  · replace h := h.2 c18
    refine lv_aload_n hx hb dX5_join_11 rfl (lv_at hl 0 rfl) ?_
    refine O5_g0 hC hinX5 hK (hw.sub sC1O) (List.mem_of_getElem? (i := 1) rfl) dX5_join_12 ?_
    refine lv_iload_n hx hb dX5_join_15 rfl (lv_at hl 2 rfl) ?_
    refine mcalli (w1 := (fun u9 : Bun => wC g q (va_up C 1 u9, N))) (va_runVN (C := RX1) (As := [.int a2]) (rest := []) hC (kX1_hasField l g aK aV (q 1) H.size (C 1) a2 _ h) ⟨va_cnB 1 hts gX5_join_X1_hasField_n73 rfl rfl rfl hE.nMX5_73 (hts (.initialized RX1) (List.mem_of_getElem? (i := 3) rfl)) (by decide +kernel) ⟨Nat.le_of_ble_eq_true rfl, Nat.le_of_ble_eq_true rfl⟩, (hts (.instanceMethod yX1_hasField) (List.mem_of_getElem? (i := 2) rfl)), (hts (.selects RX1 yX1_hasField yX1_hasField) (List.mem_of_getElem? (i := 4) rfl))⟩ (mpreV (E5_ok aK aV) hK hE hA hw (sC1P isP1) 0 rfl rfl) rfl rfl hl.1 rfl (lv_room (Nat.le_of_ble_eq_true rfl)) dX5_join_16 ⟨Nat.zero_le _, Nat.zero_le _⟩) hA hw (sC1P isP1) (fun u9 => sCP isP1 u9) (fun r10 u11 H locs h hw => ?_)
    obtain ⟨hu, h⟩ := h
    replace hu := hu.symm
    subst hu
    replace hw : Wd g.1 A s.heap ((wC g q) (C, N)) H locs := by first | exact hw | (simpa only [up_self] using hw)
    refine lv_if_eq (tgt := 27) hx hb dX5_join_19 (by decide) (fun c17 => ?_) (fun c17 => ?_)
    · replace h := h.1 c17
      exact join5  _ _ _ h hw (lv_sub hl [0] rfl)
    · replace h := h.2 c17
      refine lv_iload_n hx hb dX5_join_22 rfl (lv_at hl 1 rfl) ?_
      refine lv_iload_n hx hb dX5_join_23 rfl (lv_at hl 2 rfl) ?_
      refine lv_icmp_ne (tgt := 33) hx hb dX5_join_24 (by decide) (fun c16 => ?_) (fun c16 => ?_)
      · replace h := h.2 c16
        refine lv_aload_n hx hb dX5_join_33 rfl (lv_at hl 0 rfl) ?_
        refine O5_g0 hC hinX5 hK (hw.sub sC1O) (List.mem_of_getElem? (i := 1) rfl) dX5_join_34 ?_
        refine P5_pg3 hC hinX1 hK (hw.sub (sC1P isP1)) hE.nFX5_97 dX5_join_37 ?_
        refine lv_iload_n hx hb dX5_join_40 rfl (lv_at hl 1 rfl) ?_
        obtain ⟨hi, h⟩ := h
        refine P5_pl3 hC hK (hw.sub (sC1P isP1)) hi dX5_join_41 ?_
        refine lv_iload_n hx hb dX5_join_42 rfl (lv_at hl 2 rfl) ?_
        refine mcalli (w1 := (fun _ => (wC g q) (C, N))) (wc := fun _ : Unit => ([] : va_W)) (u := ()) (va_runS (As := [.int (C 1 4 a1.toNatClampNeg), .int a2]) (rest := []) hC (kX5_holds l g aK aV H.size (C 1 4 a1.toNatClampNeg) a2 _ h) (va_cwS 2 hts gX5_join_X5_holds rfl rfl rfl (by decide +kernel) ⟨Nat.le_of_ble_eq_true rfl, Nat.le_of_ble_eq_true rfl⟩) (mpre (E5_ok aK aV) hK hE hA hw (Sub1.nil _)) rfl rfl hl.1 rfl (lv_room (Nat.le_of_ble_eq_true rfl)) dX5_join_43 ⟨Nat.zero_le _, Nat.zero_le _⟩) hA hw (Sub1.nil _) (fun _ => Sub.nil _) (fun r12 u13 H locs h hw => ?_)
        obtain ⟨_, h⟩ := h
        refine lv_iload_n hx hb dX5_join_46 rfl (lv_at hl 3 rfl) ?_
        refine lv_icmp_ne (tgt := 52) hx hb dX5_join_47 (by decide) (fun c15 => ?_) (fun c15 => ?_)
        · replace h := h.2 c15
          refine lv_aload_n hx hb dX5_join_52 rfl (lv_at hl 0 rfl) ?_
          refine O5_g0 hC hinX5 hK (hw.sub sC1O) (List.mem_of_getElem? (i := 1) rfl) dX5_join_53 ?_
          refine P5_pg3 hC hinX1 hK (hw.sub (sC1P isP1)) hE.nFX5_97 dX5_join_56 ?_
          refine lv_iload_n hx hb dX5_join_59 rfl (lv_at hl 1 rfl) ?_
          refine lv_dup2_11 hx hb dX5_join_60 rfl rfl ?_
          obtain ⟨hi, h⟩ := h
          refine P5_pl3 hC hK (hw.sub (sC1P isP1)) hi dX5_join_61 ?_
          refine lv_iconst (v := (1 : Int32)) hx hb dX5_join_62 (by decide) ?_
          refine lv_iload_n hx hb dX5_join_63 rfl (lv_at hl 2 rfl) ?_
          refine lv_ishl hx hb dX5_join_64 ?_
          refine lv_ixor hx hb dX5_join_65 ?_
          obtain ⟨hi, h⟩ := h
          refine C_s1_3 hC hK hw hi dX5_join_66 (fun C14 H locs eC14 hw => ?_)
          replace h := h C14 eC14
          refine lv_iconst (v := (1 : Int32)) hx hb dX5_join_67 (by decide) ?_
          rw [hQ]
          exact mreti (w := (wC g q)) (u := (C14, N)) hC hr hlocks hK hw ⟨rfl, h⟩ dX5_join_68
        · replace h := h.1 c15
          refine lv_iconst (v := (0 : Int32)) hx hb dX5_join_50 (by decide) ?_
          rw [hQ]
          exact mreti (w := (wC g q)) (u := (C, N)) hC hr hlocks hK hw ⟨rfl, h⟩ dX5_join_51
      · replace h := h.1 c16
        exact join5  _ _ _ h hw (lv_sub hl [0] rfl)
def wX5_joined (C : Nat → Bun) (N : Nat → Lon) (a1 : Int32) (post : Int32 → (Nat → Bun) → Prop) : Prop :=
  wX1_hasField (C 1) a1 (fun r1 => ((r1 = 0 → wX5_finding C N (0 : Int32) (fun r3 C5 => post r3 C5)) ∧ (¬ (r1 = 0) → vp_in a1 6 ∧ post (C 1 4 a1.toNatClampNeg) C)))
set_option maxRecDepth 100000 in
set_option maxHeartbeats 4000000 in
theorem kX5_joined (l : Launch) (g : Gl) (aK : Nat → Nat) (aV : Nat → Nat) (q : Nat → Nat → Nat) (sz : Nat) (C : Nat → Bun) (N : Nat → Lon) (a1 : Int32) (post : Int32 → (Nat → Bun) → Prop) (h : wX5_joined C N a1 post) : Met l yX5_joined wsX5_joined (rmm 1 21) (wPc g (E5 aK aV) ((wC g q) (C, N)) sz [.ref (q 0 0), .int a1]) (va_Qi (fun (r : Int32) (u : (Nat → Bun) × (Nat → Lon)) => u.2 = N ∧ post r u.1) (wB g (wC g q) (va_A ((wC g q) (C, N)) sz)) (va_A ((wC g q) (C, N)) sz)) 0 0 (va_A ((wC g q) (C, N)) sz) := by
  refine mstart (Qf := fun A => va_Qi (fun (r : Int32) (u : (Nat → Bun) × (Nat → Lon)) => u.2 = N ∧ post r u.1) (wB g (wC g q) A) A) (by decide) rfl (Nat.le_of_ble_eq_true rfl) ?_
  intro p e s m args below meth c A Q H locs ls hC hr hlocks hname hQ hA hK hE hw hl
  have hC : CallFix p m c cX5_joined 2 s args wsX5_joined RX5 := hC
  obtain ⟨hx, hb, -, hown, hts⟩ := id hC
  have hl : lv_has ls 2 [(0, .ref (q 0 0)), (1, .int a1)] := hl
  rw [wX5_joined] at h
  have hinX1 : ∀ w ∈ wsX10, w ∈ wsX5_joined := fun w hw9 => List.mem_cons_of_mem _ (List.mem_append_right _ hw9)
  have hinX5 : ∀ w ∈ wsX50, w ∈ wsX5_joined := fun w hw9 => List.mem_cons_of_mem _ (List.mem_append_left _ (List.mem_append_right _ hw9))
  refine lv_aload_n hx hb dX5_joined_0 rfl (lv_at hl 0 rfl) ?_
  refine O5_g0 hC hinX5 hK (hw.sub sC1O) (List.mem_of_getElem? (i := 1) rfl) dX5_joined_1 ?_
  refine lv_iload_n hx hb dX5_joined_4 rfl (lv_at hl 1 rfl) ?_
  refine mcalli (w1 := (fun u9 : Bun => wC g q (va_up C 1 u9, N))) (va_runVN (C := RX1) (As := [.int a1]) (rest := []) hC (kX1_hasField l g aK aV (q 1) H.size (C 1) a1 _ h) ⟨va_cnB 1 hts gX5_joined_X1_hasField_n73 rfl rfl rfl hE.nMX5_73 (hts (.initialized RX1) (List.mem_of_getElem? (i := 3) rfl)) (by decide +kernel) ⟨Nat.le_of_ble_eq_true rfl, Nat.le_of_ble_eq_true rfl⟩, (hts (.instanceMethod yX1_hasField) (List.mem_of_getElem? (i := 2) rfl)), (hts (.selects RX1 yX1_hasField yX1_hasField) (List.mem_of_getElem? (i := 4) rfl))⟩ (mpreV (E5_ok aK aV) hK hE hA hw (sC1P isP1) 0 rfl rfl) rfl rfl hl.1 rfl (lv_room (Nat.le_of_ble_eq_true rfl)) dX5_joined_5 ⟨Nat.zero_le _, Nat.zero_le _⟩) hA hw (sC1P isP1) (fun u9 => sCP isP1 u9) (fun r1 u2 H locs h hw => ?_)
  obtain ⟨hu, h⟩ := h
  replace hu := hu.symm
  subst hu
  replace hw : Wd g.1 A s.heap ((wC g q) (C, N)) H locs := by first | exact hw | (simpa only [up_self] using hw)
  refine lv_if_eq (tgt := 23) hx hb dX5_joined_8 (by decide) (fun c7 => ?_) (fun c7 => ?_)
  · replace h := h.1 c7
    refine lv_aload_n hx hb dX5_joined_23 rfl (lv_at hl 0 rfl) ?_
    refine lv_iconst (v := (0 : Int32)) hx hb dX5_joined_24 (by decide) ?_
    refine mcalli (w1 := (wC g q)) (va_runV (As := [.int (0 : Int32)]) (rest := []) hC (kX5_finding l g aK aV q H.size C N (0 : Int32) _ h) (cwV 1 hts gX5_joined_X5_finding rfl rfl rfl (by decide +kernel) ⟨Nat.le_of_ble_eq_true rfl, Nat.le_of_ble_eq_true rfl⟩) (mpreV (E5_ok aK aV) hK hE hA hw (Sub1.refl _) 0 rfl rfl) rfl rfl hl.1 rfl (lv_room (Nat.le_of_ble_eq_true rfl)) dX5_joined_25 ⟨Nat.zero_le _, Nat.zero_le _⟩) hA hw (Sub1.refl _) (fun u9 => Sub.whole (wC_map u9.1 u9.2)) (fun r3 u4 H locs h hw => ?_)
    obtain ⟨C5, N6⟩ := u4
    obtain ⟨hu, h⟩ := h
    replace hu : N = N6 := hu.symm
    subst hu
    rw [hQ]
    exact mreti (w := (wC g q)) (u := (C5, N)) hC hr hlocks hK hw ⟨rfl, h⟩ dX5_joined_28
  · replace h := h.2 c7
    refine lv_aload_n hx hb dX5_joined_11 rfl (lv_at hl 0 rfl) ?_
    refine O5_g0 hC hinX5 hK (hw.sub sC1O) (List.mem_of_getElem? (i := 1) rfl) dX5_joined_12 ?_
    refine P5_pg3 hC hinX1 hK (hw.sub (sC1P isP1)) hE.nFX5_97 dX5_joined_15 ?_
    refine lv_iload_n hx hb dX5_joined_18 rfl (lv_at hl 1 rfl) ?_
    obtain ⟨hi, h⟩ := h
    refine P5_pl3 hC hK (hw.sub (sC1P isP1)) hi dX5_joined_19 ?_
    refine lv_goto (tgt := 28) hx hb dX5_joined_20 (by decide) ?_
    rw [hQ]
    exact mreti (w := (wC g q)) (u := (C, N)) hC hr hlocks hK hw ⟨rfl, h⟩ dX5_joined_28
def wX5_team (C : Nat → Bun) (N : Nat → Lon) (a1 : Int32) (a2 : Int32) (post : Int32 → (Nat → Bun) → Prop) : Prop :=
  wX5_isKind a1 (fun r1 => wjoin (σ := Unit) (fun _ => wX5_finding C N (0 : Int32) (fun r6 C8 => post r6 C8)) (fun J3 => ((r1 = 0 → J3 ()) ∧ (¬ (r1 = 0) → wX5_isPace a2 (fun r10 => ((r10 = 0 → J3 ()) ∧ (¬ (r10 = 0) → (((C 1 0 1) < (6 : Int32) → wX1_addTeam (C 1) a1 a2 (fun r12 S15 => ∀ C14 : Nat → Bun, C14 = va_up C 1 S15 → post r12 C14)) ∧ (¬ ((C 1 0 1) < (6 : Int32)) → wX5_finding C N (1 : Int32) (fun r16 C18 => post r16 C18))))))))))
set_option maxRecDepth 100000 in
set_option maxHeartbeats 4000000 in
theorem kX5_team (l : Launch) (g : Gl) (aK : Nat → Nat) (aV : Nat → Nat) (q : Nat → Nat → Nat) (sz : Nat) (C : Nat → Bun) (N : Nat → Lon) (a1 : Int32) (a2 : Int32) (post : Int32 → (Nat → Bun) → Prop) (h : wX5_team C N a1 a2 post) : Met l yX5_team wsX5_team (rmm 1 23) (wPc g (E5 aK aV) ((wC g q) (C, N)) sz [.ref (q 0 0), .int a1, .int a2]) (va_Qi (fun (r : Int32) (u : (Nat → Bun) × (Nat → Lon)) => u.2 = N ∧ post r u.1) (wB g (wC g q) (va_A ((wC g q) (C, N)) sz)) (va_A ((wC g q) (C, N)) sz)) 0 0 (va_A ((wC g q) (C, N)) sz) := by
  refine mstart (Qf := fun A => va_Qi (fun (r : Int32) (u : (Nat → Bun) × (Nat → Lon)) => u.2 = N ∧ post r u.1) (wB g (wC g q) A) A) (by decide) rfl (Nat.le_of_ble_eq_true rfl) ?_
  intro p e s m args below meth c A Q H locs ls hC hr hlocks hname hQ hA hK hE hw hl
  have hC : CallFix p m c cX5_team 3 s args wsX5_team RX5 := hC
  obtain ⟨hx, hb, -, hown, hts⟩ := id hC
  have hl : lv_has ls 3 [(0, .ref (q 0 0)), (1, .int a1), (2, .int a2)] := hl
  rw [wX5_team] at h
  have hinX1 : ∀ w ∈ wsX10, w ∈ wsX5_team := fun w hw9 => List.mem_cons_of_mem _ (List.mem_append_right _ hw9)
  have hinX5 : ∀ w ∈ wsX50, w ∈ wsX5_team := fun w hw9 => List.mem_cons_of_mem _ (List.mem_append_left _ (List.mem_append_right _ hw9))
  refine lv_iload_n hx hb dX5_team_0 rfl (lv_at hl 1 rfl) ?_
  refine mcalli (w1 := (fun _ => (wC g q) (C, N))) (wc := fun _ : Unit => ([] : va_W)) (u := ()) (va_runS (As := [.int a1]) (rest := []) hC (kX5_isKind l g aK aV H.size a1 _ h) (va_cwS 1 hts gX5_team_X5_isKind rfl rfl rfl (by decide +kernel) ⟨Nat.le_of_ble_eq_true rfl, Nat.le_of_ble_eq_true rfl⟩) (mpre (E5_ok aK aV) hK hE hA hw (Sub1.nil _)) rfl rfl hl.1 rfl (lv_room (Nat.le_of_ble_eq_true rfl)) dX5_team_1 ⟨Nat.zero_le _, Nat.zero_le _⟩) hA hw (Sub1.nil _) (fun _ => Sub.nil _) (fun r1 u2 H locs h hw => ?_)
  obtain ⟨_, h⟩ := h
  obtain ⟨J3, hJ4, h⟩ := h
  have join5 : ∀  (H : Heap) (locs : List Loc) (ls : Array Slot), J3 () → Wd g.1 A s.heap ((wC g q) (C, N)) H locs → lv_has ls 3 [(0, .ref (q 0 0))] → W p l e (rmm 1 23) s m args below meth c H locs 0 0 Q (F0 m 14 ls []) := by
    intro  H locs ls h hw hl
    replace h := hJ4 () h
    refine lv_aload_n hx hb dX5_team_14 rfl (lv_at hl 0 rfl) ?_
    refine lv_iconst (v := (0 : Int32)) hx hb dX5_team_15 (by decide) ?_
    refine mcalli (w1 := (wC g q)) (va_runV (As := [.int (0 : Int32)]) (rest := []) hC (kX5_finding l g aK aV q H.size C N (0 : Int32) _ h) (cwV 1 hts gX5_team_X5_finding rfl rfl rfl (by decide +kernel) ⟨Nat.le_of_ble_eq_true rfl, Nat.le_of_ble_eq_true rfl⟩) (mpreV (E5_ok aK aV) hK hE hA hw (Sub1.refl _) 0 rfl rfl) rfl rfl hl.1 rfl (lv_room (Nat.le_of_ble_eq_true rfl)) dX5_team_16 ⟨Nat.zero_le _, Nat.zero_le _⟩) hA hw (Sub1.refl _) (fun u9 => Sub.whole (wC_map u9.1 u9.2)) (fun r6 u7 H locs h hw => ?_)
    obtain ⟨C8, N9⟩ := u7
    obtain ⟨hu, h⟩ := h
    replace hu : N = N9 := hu.symm
    subst hu
    rw [hQ]
    exact mreti (w := (wC g q)) (u := (C8, N)) hC hr hlocks hK hw ⟨rfl, h⟩ dX5_team_19
  refine lv_if_eq (tgt := 14) hx hb dX5_team_4 (by decide) (fun c22 => ?_) (fun c22 => ?_)
  · replace h := h.1 c22
    exact join5  _ _ _ h hw (lv_sub hl [0] rfl)
  · replace h := h.2 c22
    refine lv_iload_n hx hb dX5_team_7 rfl (lv_at hl 2 rfl) ?_
    refine mcalli (w1 := (fun _ => (wC g q) (C, N))) (wc := fun _ : Unit => ([] : va_W)) (u := ()) (va_runS (As := [.int a2]) (rest := []) hC (kX5_isPace l g aK aV H.size a2 _ h) (va_cwS 1 hts gX5_team_X5_isPace rfl rfl rfl (by decide +kernel) ⟨Nat.le_of_ble_eq_true rfl, Nat.le_of_ble_eq_true rfl⟩) (mpre (E5_ok aK aV) hK hE hA hw (Sub1.nil _)) rfl rfl hl.1 rfl (lv_room (Nat.le_of_ble_eq_true rfl)) dX5_team_8 ⟨Nat.zero_le _, Nat.zero_le _⟩) hA hw (Sub1.nil _) (fun _ => Sub.nil _) (fun r10 u11 H locs h hw => ?_)
    obtain ⟨_, h⟩ := h
    refine lv_if_ne (tgt := 20) hx hb dX5_team_11 (by decide) (fun c21 => ?_) (fun c21 => ?_)
    · replace h := h.2 c21
      refine lv_aload_n hx hb dX5_team_20 rfl (lv_at hl 0 rfl) ?_
      refine O5_g0 hC hinX5 hK (hw.sub sC1O) (List.mem_of_getElem? (i := 1) rfl) dX5_team_21 ?_
      refine P5_pg1 hC hinX1 hK (hw.sub (sC1P isP1)) hE.nFX5_110 dX5_team_24 ?_
      refine lv_bipush (v := (6 : Int32)) hx hb dX5_team_27 (by decide) ?_
      refine lv_icmp_lt (tgt := 38) hx hb dX5_team_29 (by decide) (fun c20 => ?_) (fun c20 => ?_)
      · replace h := h.1 c20
        refine lv_aload_n hx hb dX5_team_38 rfl (lv_at hl 0 rfl) ?_
        refine O5_g0 hC hinX5 hK (hw.sub sC1O) (List.mem_of_getElem? (i := 1) rfl) dX5_team_39 ?_
        refine lv_iload_n hx hb dX5_team_42 rfl (lv_at hl 1 rfl) ?_
        refine lv_iload_n hx hb dX5_team_43 rfl (lv_at hl 2 rfl) ?_
        refine mcalli (w1 := (fun u9 : Bun => wC g q (va_up C 1 u9, N))) (va_runVN (C := RX1) (As := [.int a1, .int a2]) (rest := []) hC (kX1_addTeam l g aK aV (q 1) H.size (C 1) a1 a2 _ h) ⟨va_cnB 2 hts gX5_team_X1_addTeam_n113 rfl rfl rfl hE.nMX5_113 (hts (.initialized RX1) (List.mem_of_getElem? (i := 16) rfl)) (by decide +kernel) ⟨Nat.le_of_ble_eq_true rfl, Nat.le_of_ble_eq_true rfl⟩, (hts (.instanceMethod yX1_addTeam) (List.mem_of_getElem? (i := 15) rfl)), (hts (.selects RX1 yX1_addTeam yX1_addTeam) (List.mem_of_getElem? (i := 17) rfl))⟩ (mpreV (E5_ok aK aV) hK hE hA hw (sC1P isP1) 0 rfl rfl) rfl rfl hl.1 rfl (lv_room (Nat.le_of_ble_eq_true rfl)) dX5_team_44 ⟨Nat.zero_le _, Nat.zero_le _⟩) hA hw (sC1P isP1) (fun u9 => sCP isP1 u9) (fun r12 u13 H locs h hw => ?_)
        obtain ⟨S15, rfl⟩ : ∃ z, z = u13 := ⟨_, rfl⟩
        obtain ⟨C14, eC14⟩ : ∃ z, z = va_up C 1 S15 := ⟨_, rfl⟩
        replace h := h C14 eC14
        replace hw : Wd g.1 A s.heap ((wC g q) (C14, N)) H locs := by rw [eC14]; exact hw
        rw [hQ]
        exact mreti (w := (wC g q)) (u := (C14, N)) hC hr hlocks hK hw ⟨rfl, h⟩ dX5_team_47
      · replace h := h.2 c20
        refine lv_aload_n hx hb dX5_team_32 rfl (lv_at hl 0 rfl) ?_
        refine lv_iconst (v := (1 : Int32)) hx hb dX5_team_33 (by decide) ?_
        refine mcalli (w1 := (wC g q)) (va_runV (As := [.int (1 : Int32)]) (rest := []) hC (kX5_finding l g aK aV q H.size C N (1 : Int32) _ h) (cwV 1 hts gX5_team_X5_finding rfl rfl rfl (by decide +kernel) ⟨Nat.le_of_ble_eq_true rfl, Nat.le_of_ble_eq_true rfl⟩) (mpreV (E5_ok aK aV) hK hE hA hw (Sub1.refl _) 0 rfl rfl) rfl rfl hl.1 rfl (lv_room (Nat.le_of_ble_eq_true rfl)) dX5_team_34 ⟨Nat.zero_le _, Nat.zero_le _⟩) hA hw (Sub1.refl _) (fun u9 => Sub.whole (wC_map u9.1 u9.2)) (fun r16 u17 H locs h hw => ?_)
        obtain ⟨C18, N19⟩ := u17
        obtain ⟨hu, h⟩ := h
        replace hu : N = N19 := hu.symm
        subst hu
        rw [hQ]
        exact mreti (w := (wC g q)) (u := (C18, N)) hC hr hlocks hK hw ⟨rfl, h⟩ dX5_team_37
    · replace h := h.1 c21
      exact join5  _ _ _ h hw (lv_sub hl [0] rfl)
def wX5_teamOf (C : Nat → Bun) (N : Nat → Lon) (a1 : Int32) (a2 : Int32) (post : Int32 → (Nat → Bun) → Prop) : Prop :=
  wX1_hasTeam (C 1) a1 (fun r1 => wjoin (σ := Unit) (fun _ => wX5_finding C N (0 : Int32) (fun r6 C8 => post r6 C8)) (fun J3 => ((r1 = 0 → J3 ()) ∧ (¬ (r1 = 0) → ((a2 < 0 → J3 ()) ∧ (¬ (a2 < 0) → ((a2 ≤ (2 : Int32) → ((a2 = 0 → vp_in a1 6 ∧ post (C 1 5 a1.toNatClampNeg) C) ∧ (¬ (a2 = 0) → ((a2 = (1 : Int32) → vp_in a1 6 ∧ post (C 1 6 a1.toNatClampNeg) C) ∧ (¬ (a2 = (1 : Int32)) → vp_in a1 6 ∧ vp_in (C 1 5 a1.toNatClampNeg) 6 ∧ post (tbDear (C 1 5 a1.toNatClampNeg).toNatClampNeg) C))))) ∧ (¬ (a2 ≤ (2 : Int32)) → J3 ()))))))))
set_option maxRecDepth 100000 in
set_option maxHeartbeats 4000000 in
theorem kX5_teamOf (l : Launch) (g : Gl) (aK : Nat → Nat) (aV : Nat → Nat) (q : Nat → Nat → Nat) (sz : Nat) (C : Nat → Bun) (N : Nat → Lon) (a1 : Int32) (a2 : Int32) (post : Int32 → (Nat → Bun) → Prop) (h : wX5_teamOf C N a1 a2 post) : Met l yX5_teamOf wsX5_teamOf (rmm 1 21) (wPc g (E5 aK aV) ((wC g q) (C, N)) sz [.ref (q 0 0), .int a1, .int a2]) (va_Qi (fun (r : Int32) (u : (Nat → Bun) × (Nat → Lon)) => u.2 = N ∧ post r u.1) (wB g (wC g q) (va_A ((wC g q) (C, N)) sz)) (va_A ((wC g q) (C, N)) sz)) 0 0 (va_A ((wC g q) (C, N)) sz) := by
  refine mstart (Qf := fun A => va_Qi (fun (r : Int32) (u : (Nat → Bun) × (Nat → Lon)) => u.2 = N ∧ post r u.1) (wB g (wC g q) A) A) (by decide) rfl (Nat.le_of_ble_eq_true rfl) ?_
  intro p e s m args below meth c A Q H locs ls hC hr hlocks hname hQ hA hK hE hw hl
  have hC : CallFix p m c cX5_teamOf 3 s args wsX5_teamOf RX5 := hC
  obtain ⟨hx, hb, -, hown, hts⟩ := id hC
  have hl : lv_has ls 3 [(0, .ref (q 0 0)), (1, .int a1), (2, .int a2)] := hl
  rw [wX5_teamOf] at h
  have hinX1 : ∀ w ∈ wsX10, w ∈ wsX5_teamOf := fun w hw9 => List.mem_cons_of_mem _ (List.mem_append_right _ hw9)
  have hinX5 : ∀ w ∈ wsX50, w ∈ wsX5_teamOf := fun w hw9 => List.mem_cons_of_mem _ (List.mem_append_left _ (List.mem_append_right _ hw9))
  refine lv_aload_n hx hb dX5_teamOf_0 rfl (lv_at hl 0 rfl) ?_
  refine O5_g0 hC hinX5 hK (hw.sub sC1O) (List.mem_of_getElem? (i := 1) rfl) dX5_teamOf_1 ?_
  refine lv_iload_n hx hb dX5_teamOf_4 rfl (lv_at hl 1 rfl) ?_
  refine mcalli (w1 := (fun u9 : Bun => wC g q (va_up C 1 u9, N))) (va_runVN (C := RX1) (As := [.int a1]) (rest := []) hC (kX1_hasTeam l g aK aV (q 1) H.size (C 1) a1 _ h) ⟨va_cnB 1 hts gX5_teamOf_X1_hasTeam_n116 rfl rfl rfl hE.nMX5_116 (hts (.initialized RX1) (List.mem_of_getElem? (i := 4) rfl)) (by decide +kernel) ⟨Nat.le_of_ble_eq_true rfl, Nat.le_of_ble_eq_true rfl⟩, (hts (.instanceMethod yX1_hasTeam) (List.mem_of_getElem? (i := 3) rfl)), (hts (.selects RX1 yX1_hasTeam yX1_hasTeam) (List.mem_of_getElem? (i := 5) rfl))⟩ (mpreV (E5_ok aK aV) hK hE hA hw (sC1P isP1) 0 rfl rfl) rfl rfl hl.1 rfl (lv_room (Nat.le_of_ble_eq_true rfl)) dX5_teamOf_5 ⟨Nat.zero_le _, Nat.zero_le _⟩) hA hw (sC1P isP1) (fun u9 => sCP isP1 u9) (fun r1 u2 H locs h hw => ?_)
  obtain ⟨hu, h⟩ := h
  replace hu := hu.symm
  subst hu
  replace hw : Wd g.1 A s.heap ((wC g q) (C, N)) H locs := by first | exact hw | (simpa only [up_self] using hw)
  obtain ⟨J3, hJ4, h⟩ := h
  have join5 : ∀  (H : Heap) (locs : List Loc) (ls : Array Slot), J3 () → Wd g.1 A s.heap ((wC g q) (C, N)) H locs → lv_has ls 3 [(0, .ref (q 0 0))] → W p l e (rmm 1 21) s m args below meth c H locs 0 0 Q (F0 m 20 ls []) := by
    intro  H locs ls h hw hl
    replace h := hJ4 () h
    refine lv_aload_n hx hb dX5_teamOf_20 rfl (lv_at hl 0 rfl) ?_
    refine lv_iconst (v := (0 : Int32)) hx hb dX5_teamOf_21 (by decide) ?_
    refine mcalli (w1 := (wC g q)) (va_runV (As := [.int (0 : Int32)]) (rest := []) hC (kX5_finding l g aK aV q H.size C N (0 : Int32) _ h) (cwV 1 hts gX5_teamOf_X5_finding rfl rfl rfl (by decide +kernel) ⟨Nat.le_of_ble_eq_true rfl, Nat.le_of_ble_eq_true rfl⟩) (mpreV (E5_ok aK aV) hK hE hA hw (Sub1.refl _) 0 rfl rfl) rfl rfl hl.1 rfl (lv_room (Nat.le_of_ble_eq_true rfl)) dX5_teamOf_22 ⟨Nat.zero_le _, Nat.zero_le _⟩) hA hw (Sub1.refl _) (fun u9 => Sub.whole (wC_map u9.1 u9.2)) (fun r6 u7 H locs h hw => ?_)
    obtain ⟨C8, N9⟩ := u7
    obtain ⟨hu, h⟩ := h
    replace hu : N = N9 := hu.symm
    subst hu
    rw [hQ]
    exact mreti (w := (wC g q)) (u := (C8, N)) hC hr hlocks hK hw ⟨rfl, h⟩ dX5_teamOf_25
  refine lv_if_eq (tgt := 20) hx hb dX5_teamOf_8 (by decide) (fun c15 => ?_) (fun c15 => ?_)
  · replace h := h.1 c15
    exact join5  _ _ _ h hw (lv_sub hl [0] rfl)
  · replace h := h.2 c15
    refine lv_iload_n hx hb dX5_teamOf_11 rfl (lv_at hl 2 rfl) ?_
    refine lv_if_lt (tgt := 20) hx hb dX5_teamOf_12 (by decide) (fun c14 => ?_) (fun c14 => ?_)
    · replace h := h.1 c14
      exact join5  _ _ _ h hw (lv_sub hl [0] rfl)
    · replace h := h.2 c14
      refine lv_iload_n hx hb dX5_teamOf_15 rfl (lv_at hl 2 rfl) ?_
      refine lv_iconst (v := (2 : Int32)) hx hb dX5_teamOf_16 (by decide) ?_
      refine lv_icmp_le (tgt := 26) hx hb dX5_teamOf_17 (by decide) (fun c13 => ?_) (fun c13 => ?_)
      · replace h := h.1 c13
        refine lv_iload_n hx hb dX5_teamOf_26 rfl (lv_at hl 2 rfl) ?_
        refine lv_if_ne (tgt := 40) hx hb dX5_teamOf_27 (by decide) (fun c12 => ?_) (fun c12 => ?_)
        · replace h := h.2 c12
          refine lv_iload_n hx hb dX5_teamOf_40 rfl (lv_at hl 2 rfl) ?_
          refine lv_iconst (v := (1 : Int32)) hx hb dX5_teamOf_41 (by decide) ?_
          refine lv_icmp_ne (tgt := 57) hx hb dX5_teamOf_42 (by decide) (fun c11 => ?_) (fun c11 => ?_)
          · replace h := h.2 c11
            obtain ⟨t10, hZt10, hTt10⟩ := hE.tbDear
            refine va_gets hx hb hZt10 hw.2.2 hown (hts (.fieldLink RX5 125 "OneFurrow" "DEAR" "[I") (List.mem_of_getElem? (i := 2) rfl)) (fun _ h9 => h9) dX5_teamOf_57 ?_
            refine lv_aload_n hx hb dX5_teamOf_60 rfl (lv_at hl 0 rfl) ?_
            refine O5_g0 hC hinX5 hK (hw.sub sC1O) (List.mem_of_getElem? (i := 1) rfl) dX5_teamOf_61 ?_
            refine P5_pg4 hC hinX1 hK (hw.sub (sC1P isP1)) hE.nFX5_119 dX5_teamOf_64 ?_
            refine lv_iload_n hx hb dX5_teamOf_67 rfl (lv_at hl 1 rfl) ?_
            obtain ⟨hi, h⟩ := h
            refine P5_pl4 hC hK (hw.sub (sC1P isP1)) hi dX5_teamOf_68 ?_
            obtain ⟨hi, h⟩ := h
            refine va_ti hx hb hTt10 hw.2.2 hi rfl dX5_teamOf_69 ?_
            rw [hQ]
            exact mreti (w := (wC g q)) (u := (C, N)) hC hr hlocks hK hw ⟨rfl, h⟩ dX5_teamOf_70
          · replace h := h.1 c11
            refine lv_aload_n hx hb dX5_teamOf_45 rfl (lv_at hl 0 rfl) ?_
            refine O5_g0 hC hinX5 hK (hw.sub sC1O) (List.mem_of_getElem? (i := 1) rfl) dX5_teamOf_46 ?_
            refine P5_pg5 hC hinX1 hK (hw.sub (sC1P isP1)) hE.nFX5_122 dX5_teamOf_49 ?_
            refine lv_iload_n hx hb dX5_teamOf_52 rfl (lv_at hl 1 rfl) ?_
            obtain ⟨hi, h⟩ := h
            refine P5_pl5 hC hK (hw.sub (sC1P isP1)) hi dX5_teamOf_53 ?_
            refine lv_goto (tgt := 70) hx hb dX5_teamOf_54 (by decide) ?_
            rw [hQ]
            exact mreti (w := (wC g q)) (u := (C, N)) hC hr hlocks hK hw ⟨rfl, h⟩ dX5_teamOf_70
        · replace h := h.1 c12
          refine lv_aload_n hx hb dX5_teamOf_30 rfl (lv_at hl 0 rfl) ?_
          refine O5_g0 hC hinX5 hK (hw.sub sC1O) (List.mem_of_getElem? (i := 1) rfl) dX5_teamOf_31 ?_
          refine P5_pg4 hC hinX1 hK (hw.sub (sC1P isP1)) hE.nFX5_119 dX5_teamOf_34 ?_
          refine lv_iload_n hx hb dX5_teamOf_37 rfl (lv_at hl 1 rfl) ?_
          obtain ⟨hi, h⟩ := h
          refine P5_pl4 hC hK (hw.sub (sC1P isP1)) hi dX5_teamOf_38 ?_
          rw [hQ]
          exact mreti (w := (wC g q)) (u := (C, N)) hC hr hlocks hK hw ⟨rfl, h⟩ dX5_teamOf_39
      · replace h := h.2 c13
        exact join5  _ _ _ h hw (lv_sub hl [0] rfl)
def wX5_pace (C : Nat → Bun) (N : Nat → Lon) (a1 : Int32) (a2 : Int32) (post : Int32 → (Nat → Bun) → Prop) : Prop :=
  wX1_hasTeam (C 1) a1 (fun r1 => wjoin (σ := Unit) (fun _ => wX5_finding C N (0 : Int32) (fun r6 C8 => post r6 C8)) (fun J3 => ((r1 = 0 → J3 ()) ∧ (¬ (r1 = 0) → wX5_isPace a2 (fun r10 => ((r10 = 0 → J3 ()) ∧ (¬ (r10 = 0) → vp_in a1 6 ∧ ∀ x12 : Int32, x12 = C 1 6 a1.toNatClampNeg → vp_in a1 6 ∧ ∀ C13 : Nat → Bun, C13 = va_up C 1 (up (C 1) 6 a1.toNatClampNeg a2) → post x12 C13)))))))
set_option maxRecDepth 100000 in
set_option maxHeartbeats 4000000 in
theorem kX5_pace (l : Launch) (g : Gl) (aK : Nat → Nat) (aV : Nat → Nat) (q : Nat → Nat → Nat) (sz : Nat) (C : Nat → Bun) (N : Nat → Lon) (a1 : Int32) (a2 : Int32) (post : Int32 → (Nat → Bun) → Prop) (h : wX5_pace C N a1 a2 post) : Met l yX5_pace wsX5_pace (rmm 1 21) (wPc g (E5 aK aV) ((wC g q) (C, N)) sz [.ref (q 0 0), .int a1, .int a2]) (va_Qi (fun (r : Int32) (u : (Nat → Bun) × (Nat → Lon)) => u.2 = N ∧ post r u.1) (wB g (wC g q) (va_A ((wC g q) (C, N)) sz)) (va_A ((wC g q) (C, N)) sz)) 0 0 (va_A ((wC g q) (C, N)) sz) := by
  refine mstart (Qf := fun A => va_Qi (fun (r : Int32) (u : (Nat → Bun) × (Nat → Lon)) => u.2 = N ∧ post r u.1) (wB g (wC g q) A) A) (by decide) rfl (Nat.le_of_ble_eq_true rfl) ?_
  intro p e s m args below meth c A Q H locs ls hC hr hlocks hname hQ hA hK hE hw hl
  have hC : CallFix p m c cX5_pace 4 s args wsX5_pace RX5 := hC
  obtain ⟨hx, hb, -, hown, hts⟩ := id hC
  have hl : lv_has ls 4 [(0, .ref (q 0 0)), (1, .int a1), (2, .int a2)] := hl
  rw [wX5_pace] at h
  have hinX1 : ∀ w ∈ wsX10, w ∈ wsX5_pace := fun w hw9 => List.mem_cons_of_mem _ (List.mem_append_right _ hw9)
  have hinX5 : ∀ w ∈ wsX50, w ∈ wsX5_pace := fun w hw9 => List.mem_cons_of_mem _ (List.mem_append_left _ (List.mem_append_right _ hw9))
  refine lv_aload_n hx hb dX5_pace_0 rfl (lv_at hl 0 rfl) ?_
  refine O5_g0 hC hinX5 hK (hw.sub sC1O) (List.mem_of_getElem? (i := 1) rfl) dX5_pace_1 ?_
  refine lv_iload_n hx hb dX5_pace_4 rfl (lv_at hl 1 rfl) ?_
  refine mcalli (w1 := (fun u9 : Bun => wC g q (va_up C 1 u9, N))) (va_runVN (C := RX1) (As := [.int a1]) (rest := []) hC (kX1_hasTeam l g aK aV (q 1) H.size (C 1) a1 _ h) ⟨va_cnB 1 hts gX5_pace_X1_hasTeam_n116 rfl rfl rfl hE.nMX5_116 (hts (.initialized RX1) (List.mem_of_getElem? (i := 3) rfl)) (by decide +kernel) ⟨Nat.le_of_ble_eq_true rfl, Nat.le_of_ble_eq_true rfl⟩, (hts (.instanceMethod yX1_hasTeam) (List.mem_of_getElem? (i := 2) rfl)), (hts (.selects RX1 yX1_hasTeam yX1_hasTeam) (List.mem_of_getElem? (i := 4) rfl))⟩ (mpreV (E5_ok aK aV) hK hE hA hw (sC1P isP1) 0 rfl rfl) rfl rfl hl.1 rfl (lv_room (Nat.le_of_ble_eq_true rfl)) dX5_pace_5 ⟨Nat.zero_le _, Nat.zero_le _⟩) hA hw (sC1P isP1) (fun u9 => sCP isP1 u9) (fun r1 u2 H locs h hw => ?_)
  obtain ⟨hu, h⟩ := h
  replace hu := hu.symm
  subst hu
  replace hw : Wd g.1 A s.heap ((wC g q) (C, N)) H locs := by first | exact hw | (simpa only [up_self] using hw)
  obtain ⟨J3, hJ4, h⟩ := h
  have join5 : ∀  (H : Heap) (locs : List Loc) (ls : Array Slot), J3 () → Wd g.1 A s.heap ((wC g q) (C, N)) H locs → lv_has ls 4 [(0, .ref (q 0 0))] → W p l e (rmm 1 21) s m args below meth c H locs 0 0 Q (F0 m 18 ls []) := by
    intro  H locs ls h hw hl
    replace h := hJ4 () h
    refine lv_aload_n hx hb dX5_pace_18 rfl (lv_at hl 0 rfl) ?_
    refine lv_iconst (v := (0 : Int32)) hx hb dX5_pace_19 (by decide) ?_
    refine mcalli (w1 := (wC g q)) (va_runV (As := [.int (0 : Int32)]) (rest := []) hC (kX5_finding l g aK aV q H.size C N (0 : Int32) _ h) (cwV 1 hts gX5_pace_X5_finding rfl rfl rfl (by decide +kernel) ⟨Nat.le_of_ble_eq_true rfl, Nat.le_of_ble_eq_true rfl⟩) (mpreV (E5_ok aK aV) hK hE hA hw (Sub1.refl _) 0 rfl rfl) rfl rfl hl.1 rfl (lv_room (Nat.le_of_ble_eq_true rfl)) dX5_pace_20 ⟨Nat.zero_le _, Nat.zero_le _⟩) hA hw (Sub1.refl _) (fun u9 => Sub.whole (wC_map u9.1 u9.2)) (fun r6 u7 H locs h hw => ?_)
    obtain ⟨C8, N9⟩ := u7
    obtain ⟨hu, h⟩ := h
    replace hu : N = N9 := hu.symm
    subst hu
    rw [hQ]
    exact mreti (w := (wC g q)) (u := (C8, N)) hC hr hlocks hK hw ⟨rfl, h⟩ dX5_pace_23
  refine lv_if_eq (tgt := 18) hx hb dX5_pace_8 (by decide) (fun c15 => ?_) (fun c15 => ?_)
  · replace h := h.1 c15
    exact join5  _ _ _ h hw (lv_sub hl [0] rfl)
  · replace h := h.2 c15
    refine lv_iload_n hx hb dX5_pace_11 rfl (lv_at hl 2 rfl) ?_
    refine mcalli (w1 := (fun _ => (wC g q) (C, N))) (wc := fun _ : Unit => ([] : va_W)) (u := ()) (va_runS (As := [.int a2]) (rest := []) hC (kX5_isPace l g aK aV H.size a2 _ h) (va_cwS 1 hts gX5_pace_X5_isPace rfl rfl rfl (by decide +kernel) ⟨Nat.le_of_ble_eq_true rfl, Nat.le_of_ble_eq_true rfl⟩) (mpre (E5_ok aK aV) hK hE hA hw (Sub1.nil _)) rfl rfl hl.1 rfl (lv_room (Nat.le_of_ble_eq_true rfl)) dX5_pace_12 ⟨Nat.zero_le _, Nat.zero_le _⟩) hA hw (Sub1.nil _) (fun _ => Sub.nil _) (fun r10 u11 H locs h hw => ?_)
    obtain ⟨_, h⟩ := h
    refine lv_if_ne (tgt := 24) hx hb dX5_pace_15 (by decide) (fun c14 => ?_) (fun c14 => ?_)
    · replace h := h.2 c14
      refine lv_aload_n hx hb dX5_pace_24 rfl (lv_at hl 0 rfl) ?_
      refine O5_g0 hC hinX5 hK (hw.sub sC1O) (List.mem_of_getElem? (i := 1) rfl) dX5_pace_25 ?_
      refine P5_pg5 hC hinX1 hK (hw.sub (sC1P isP1)) hE.nFX5_122 dX5_pace_28 ?_
      refine lv_iload_n hx hb dX5_pace_31 rfl (lv_at hl 1 rfl) ?_
      obtain ⟨hi, h⟩ := h
      refine P5_pl5 hC hK (hw.sub (sC1P isP1)) hi dX5_pace_32 ?_
      refine lv_topi (fun x12 ex12 => ?_)
      replace h := h x12 ex12
      refine lv_istore_n (lv' := [(3, .int x12), (0, .ref (q 0 0)), (1, .int a1), (2, .int a2)]) hx hb dX5_pace_33 rfl hl (by decide) rfl (fun ls hl => ?_)
      refine lv_aload_n hx hb dX5_pace_34 rfl (lv_at hl 1 rfl) ?_
      refine O5_g0 hC hinX5 hK (hw.sub sC1O) (List.mem_of_getElem? (i := 1) rfl) dX5_pace_35 ?_
      refine P5_pg5 hC hinX1 hK (hw.sub (sC1P isP1)) hE.nFX5_122 dX5_pace_38 ?_
      refine lv_iload_n hx hb dX5_pace_41 rfl (lv_at hl 2 rfl) ?_
      refine lv_iload_n hx hb dX5_pace_42 rfl (lv_at hl 3 rfl) ?_
      obtain ⟨hi, h⟩ := h
      refine C_s1_5 hC hK hw hi dX5_pace_43 (fun C13 H locs eC13 hw => ?_)
      replace h := h C13 eC13
      refine lv_iload_n hx hb dX5_pace_44 rfl (lv_at hl 0 rfl) ?_
      rw [hQ]
      exact mreti (w := (wC g q)) (u := (C13, N)) hC hr hlocks hK hw ⟨rfl, h⟩ dX5_pace_45
    · replace h := h.1 c14
      exact join5  _ _ _ h hw (lv_sub hl [0] rfl)
def wX5_as (C : Nat → Bun) (N : Nat → Lon) (a1 : Int32) (a2 : Int32) (post : Int32 → (Nat → Bun) → Prop) : Prop :=
  wX1_hasTeam (C 1) a1 (fun r1 => wjoin (σ := Unit) (fun _ => wX5_finding C N (0 : Int32) (fun r6 C8 => post r6 C8)) (fun J3 => ((r1 = 0 → J3 ()) ∧ (¬ (r1 = 0) → wX5_isKind a2 (fun r10 => ((r10 = 0 → J3 ()) ∧ (¬ (r10 = 0) → vp_in a1 6 ∧ wX5_isOfKind (C 1 5 a1.toNatClampNeg) a2 (fun r12 => ((r12 = 0 → wX5_finding C N (2 : Int32) (fun r14 C16 => post r14 C16)) ∧ (¬ (r12 = 0) → vp_in a1 6 ∧ vp_in (C 1 5 a1.toNatClampNeg) 6 ∧ post (tbDear (C 1 5 a1.toNatClampNeg).toNatClampNeg) C))))))))))
set_option maxRecDepth 100000 in
set_option maxHeartbeats 4000000 in
theorem kX5_as (l : Launch) (g : Gl) (aK : Nat → Nat) (aV : Nat → Nat) (q : Nat → Nat → Nat) (sz : Nat) (C : Nat → Bun) (N : Nat → Lon) (a1 : Int32) (a2 : Int32) (post : Int32 → (Nat → Bun) → Prop) (h : wX5_as C N a1 a2 post) : Met l yX5_as wsX5_as (rmm 1 21) (wPc g (E5 aK aV) ((wC g q) (C, N)) sz [.ref (q 0 0), .int a1, .int a2]) (va_Qi (fun (r : Int32) (u : (Nat → Bun) × (Nat → Lon)) => u.2 = N ∧ post r u.1) (wB g (wC g q) (va_A ((wC g q) (C, N)) sz)) (va_A ((wC g q) (C, N)) sz)) 0 0 (va_A ((wC g q) (C, N)) sz) := by
  refine mstart (Qf := fun A => va_Qi (fun (r : Int32) (u : (Nat → Bun) × (Nat → Lon)) => u.2 = N ∧ post r u.1) (wB g (wC g q) A) A) (by decide) rfl (Nat.le_of_ble_eq_true rfl) ?_
  intro p e s m args below meth c A Q H locs ls hC hr hlocks hname hQ hA hK hE hw hl
  have hC : CallFix p m c cX5_as 3 s args wsX5_as RX5 := hC
  obtain ⟨hx, hb, -, hown, hts⟩ := id hC
  have hl : lv_has ls 3 [(0, .ref (q 0 0)), (1, .int a1), (2, .int a2)] := hl
  rw [wX5_as] at h
  have hinX1 : ∀ w ∈ wsX10, w ∈ wsX5_as := fun w hw9 => List.mem_cons_of_mem _ (List.mem_append_right _ hw9)
  have hinX5 : ∀ w ∈ wsX50, w ∈ wsX5_as := fun w hw9 => List.mem_cons_of_mem _ (List.mem_append_left _ (List.mem_append_right _ hw9))
  refine lv_aload_n hx hb dX5_as_0 rfl (lv_at hl 0 rfl) ?_
  refine O5_g0 hC hinX5 hK (hw.sub sC1O) (List.mem_of_getElem? (i := 1) rfl) dX5_as_1 ?_
  refine lv_iload_n hx hb dX5_as_4 rfl (lv_at hl 1 rfl) ?_
  refine mcalli (w1 := (fun u9 : Bun => wC g q (va_up C 1 u9, N))) (va_runVN (C := RX1) (As := [.int a1]) (rest := []) hC (kX1_hasTeam l g aK aV (q 1) H.size (C 1) a1 _ h) ⟨va_cnB 1 hts gX5_as_X1_hasTeam_n116 rfl rfl rfl hE.nMX5_116 (hts (.initialized RX1) (List.mem_of_getElem? (i := 4) rfl)) (by decide +kernel) ⟨Nat.le_of_ble_eq_true rfl, Nat.le_of_ble_eq_true rfl⟩, (hts (.instanceMethod yX1_hasTeam) (List.mem_of_getElem? (i := 3) rfl)), (hts (.selects RX1 yX1_hasTeam yX1_hasTeam) (List.mem_of_getElem? (i := 5) rfl))⟩ (mpreV (E5_ok aK aV) hK hE hA hw (sC1P isP1) 0 rfl rfl) rfl rfl hl.1 rfl (lv_room (Nat.le_of_ble_eq_true rfl)) dX5_as_5 ⟨Nat.zero_le _, Nat.zero_le _⟩) hA hw (sC1P isP1) (fun u9 => sCP isP1 u9) (fun r1 u2 H locs h hw => ?_)
  obtain ⟨hu, h⟩ := h
  replace hu := hu.symm
  subst hu
  replace hw : Wd g.1 A s.heap ((wC g q) (C, N)) H locs := by first | exact hw | (simpa only [up_self] using hw)
  obtain ⟨J3, hJ4, h⟩ := h
  have join5 : ∀  (H : Heap) (locs : List Loc) (ls : Array Slot), J3 () → Wd g.1 A s.heap ((wC g q) (C, N)) H locs → lv_has ls 3 [(0, .ref (q 0 0))] → W p l e (rmm 1 21) s m args below meth c H locs 0 0 Q (F0 m 18 ls []) := by
    intro  H locs ls h hw hl
    replace h := hJ4 () h
    refine lv_aload_n hx hb dX5_as_18 rfl (lv_at hl 0 rfl) ?_
    refine lv_iconst (v := (0 : Int32)) hx hb dX5_as_19 (by decide) ?_
    refine mcalli (w1 := (wC g q)) (va_runV (As := [.int (0 : Int32)]) (rest := []) hC (kX5_finding l g aK aV q H.size C N (0 : Int32) _ h) (cwV 1 hts gX5_as_X5_finding rfl rfl rfl (by decide +kernel) ⟨Nat.le_of_ble_eq_true rfl, Nat.le_of_ble_eq_true rfl⟩) (mpreV (E5_ok aK aV) hK hE hA hw (Sub1.refl _) 0 rfl rfl) rfl rfl hl.1 rfl (lv_room (Nat.le_of_ble_eq_true rfl)) dX5_as_20 ⟨Nat.zero_le _, Nat.zero_le _⟩) hA hw (Sub1.refl _) (fun u9 => Sub.whole (wC_map u9.1 u9.2)) (fun r6 u7 H locs h hw => ?_)
    obtain ⟨C8, N9⟩ := u7
    obtain ⟨hu, h⟩ := h
    replace hu : N = N9 := hu.symm
    subst hu
    rw [hQ]
    exact mreti (w := (wC g q)) (u := (C8, N)) hC hr hlocks hK hw ⟨rfl, h⟩ dX5_as_23
  refine lv_if_eq (tgt := 18) hx hb dX5_as_8 (by decide) (fun c21 => ?_) (fun c21 => ?_)
  · replace h := h.1 c21
    exact join5  _ _ _ h hw (lv_sub hl [0] rfl)
  · replace h := h.2 c21
    refine lv_iload_n hx hb dX5_as_11 rfl (lv_at hl 2 rfl) ?_
    refine mcalli (w1 := (fun _ => (wC g q) (C, N))) (wc := fun _ : Unit => ([] : va_W)) (u := ()) (va_runS (As := [.int a2]) (rest := []) hC (kX5_isKind l g aK aV H.size a2 _ h) (va_cwS 1 hts gX5_as_X5_isKind rfl rfl rfl (by decide +kernel) ⟨Nat.le_of_ble_eq_true rfl, Nat.le_of_ble_eq_true rfl⟩) (mpre (E5_ok aK aV) hK hE hA hw (Sub1.nil _)) rfl rfl hl.1 rfl (lv_room (Nat.le_of_ble_eq_true rfl)) dX5_as_12 ⟨Nat.zero_le _, Nat.zero_le _⟩) hA hw (Sub1.nil _) (fun _ => Sub.nil _) (fun r10 u11 H locs h hw => ?_)
    obtain ⟨_, h⟩ := h
    refine lv_if_ne (tgt := 24) hx hb dX5_as_15 (by decide) (fun c20 => ?_) (fun c20 => ?_)
    · replace h := h.2 c20
      refine lv_aload_n hx hb dX5_as_24 rfl (lv_at hl 0 rfl) ?_
      refine O5_g0 hC hinX5 hK (hw.sub sC1O) (List.mem_of_getElem? (i := 1) rfl) dX5_as_25 ?_
      refine P5_pg4 hC hinX1 hK (hw.sub (sC1P isP1)) hE.nFX5_119 dX5_as_28 ?_
      refine lv_iload_n hx hb dX5_as_31 rfl (lv_at hl 1 rfl) ?_
      obtain ⟨hi, h⟩ := h
      refine P5_pl4 hC hK (hw.sub (sC1P isP1)) hi dX5_as_32 ?_
      refine lv_iload_n hx hb dX5_as_33 rfl (lv_at hl 2 rfl) ?_
      refine mcalli (w1 := (fun _ => (wC g q) (C, N))) (wc := fun _ : Unit => ([] : va_W)) (u := ()) (va_runS (As := [.int (C 1 5 a1.toNatClampNeg), .int a2]) (rest := []) hC (kX5_isOfKind l g aK aV H.size (C 1 5 a1.toNatClampNeg) a2 _ h) (va_cwS 2 hts gX5_as_X5_isOfKind rfl rfl rfl (by decide +kernel) ⟨Nat.le_of_ble_eq_true rfl, Nat.le_of_ble_eq_true rfl⟩) (mpre (E5_ok aK aV) hK hE hA hw (Sub1.nil _)) rfl rfl hl.1 rfl (lv_room (Nat.le_of_ble_eq_true rfl)) dX5_as_34 ⟨Nat.zero_le _, Nat.zero_le _⟩) hA hw (Sub1.nil _) (fun _ => Sub.nil _) (fun r12 u13 H locs h hw => ?_)
      obtain ⟨_, h⟩ := h
      refine lv_if_eq (tgt := 56) hx hb dX5_as_37 (by decide) (fun c19 => ?_) (fun c19 => ?_)
      · replace h := h.1 c19
        refine lv_aload_n hx hb dX5_as_56 rfl (lv_at hl 0 rfl) ?_
        refine lv_iconst (v := (2 : Int32)) hx hb dX5_as_57 (by decide) ?_
        refine mcalli (w1 := (wC g q)) (va_runV (As := [.int (2 : Int32)]) (rest := []) hC (kX5_finding l g aK aV q H.size C N (2 : Int32) _ h) (cwV 1 hts gX5_as_X5_finding rfl rfl rfl (by decide +kernel) ⟨Nat.le_of_ble_eq_true rfl, Nat.le_of_ble_eq_true rfl⟩) (mpreV (E5_ok aK aV) hK hE hA hw (Sub1.refl _) 0 rfl rfl) rfl rfl hl.1 rfl (lv_room (Nat.le_of_ble_eq_true rfl)) dX5_as_58 ⟨Nat.zero_le _, Nat.zero_le _⟩) hA hw (Sub1.refl _) (fun u9 => Sub.whole (wC_map u9.1 u9.2)) (fun r14 u15 H locs h hw => ?_)
        obtain ⟨C16, N17⟩ := u15
        obtain ⟨hu, h⟩ := h
        replace hu : N = N17 := hu.symm
        subst hu
        rw [hQ]
        exact mreti (w := (wC g q)) (u := (C16, N)) hC hr hlocks hK hw ⟨rfl, h⟩ dX5_as_61
      · replace h := h.2 c19
        obtain ⟨t18, hZt18, hTt18⟩ := hE.tbDear
        refine va_gets hx hb hZt18 hw.2.2 hown (hts (.fieldLink RX5 125 "OneFurrow" "DEAR" "[I") (List.mem_of_getElem? (i := 2) rfl)) (fun _ h9 => h9) dX5_as_40 ?_
        refine lv_aload_n hx hb dX5_as_43 rfl (lv_at hl 0 rfl) ?_
        refine O5_g0 hC hinX5 hK (hw.sub sC1O) (List.mem_of_getElem? (i := 1) rfl) dX5_as_44 ?_
        refine P5_pg4 hC hinX1 hK (hw.sub (sC1P isP1)) hE.nFX5_119 dX5_as_47 ?_
        refine lv_iload_n hx hb dX5_as_50 rfl (lv_at hl 1 rfl) ?_
        obtain ⟨hi, h⟩ := h
        refine P5_pl4 hC hK (hw.sub (sC1P isP1)) hi dX5_as_51 ?_
        obtain ⟨hi, h⟩ := h
        refine va_ti hx hb hTt18 hw.2.2 hi rfl dX5_as_52 ?_
        refine lv_goto (tgt := 61) hx hb dX5_as_53 (by decide) ?_
        rw [hQ]
        exact mreti (w := (wC g q)) (u := (C, N)) hC hr hlocks hK hw ⟨rfl, h⟩ dX5_as_61
    · replace h := h.1 c20
      exact join5  _ _ _ h hw (lv_sub hl [0] rfl)
def wX5_may (C : Nat → Bun) (N : Nat → Lon) (a1 : Int32) (a2 : Int32) (a3 : Int32) (a4 : Int32) (a5 : Int32) (a6 : Int32) (post : Int32 → (Nat → Bun) → Prop) : Prop :=
  wX1_hasTeam (C 1) a1 (fun r1 => wjoin (σ := Unit) (fun _ => wX5_finding C N (0 : Int32) (fun r6 C8 => post r6 C8)) (fun J3 => ((r1 = 0 → J3 ()) ∧ (¬ (r1 = 0) → wX1_hasField (C 1) a2 (fun r10 => ((r10 = 0 → J3 ()) ∧ (¬ (r10 = 0) → wX5_isCell a3 (fun r12 => ((r12 = 0 → J3 ()) ∧ (¬ (r12 = 0) → wjoin (σ := Unit) (fun _ => wX5_finding C N (0 : Int32) (fun r17 C19 => post r17 C19)) (fun J14 => ((a4 < (-1 : Int32) → J14 ()) ∧ (¬ (a4 < (-1 : Int32)) → (((4 : Int32) ≤ a4 → J14 ()) ∧ (¬ ((4 : Int32) ≤ a4) → ((a5 < 0 → J14 ()) ∧ (¬ (a5 < 0) → ((a5 < (4 : Int32) → wX1_mark (C 1) a2 (1 : Int32) (fun r21 => wX5_cellsBeside r21 (fun r23 => vp_in a1 6 ∧ wX5_mayStep (C 1 5 a1.toNatClampNeg) r23 a3 a4 a5 a6 (fun r25 => ((r25 = 0 → post (0 : Int32) C) ∧ (¬ (r25 = 0) → post (1 : Int32) C)))))) ∧ (¬ (a5 < (4 : Int32)) → J14 ())))))))))))))))))))
set_option maxRecDepth 100000 in
set_option maxHeartbeats 4000000 in
theorem kX5_may (l : Launch) (g : Gl) (aK : Nat → Nat) (aV : Nat → Nat) (q : Nat → Nat → Nat) (sz : Nat) (C : Nat → Bun) (N : Nat → Lon) (a1 : Int32) (a2 : Int32) (a3 : Int32) (a4 : Int32) (a5 : Int32) (a6 : Int32) (post : Int32 → (Nat → Bun) → Prop) (h : wX5_may C N a1 a2 a3 a4 a5 a6 post) : Met l yX5_may wsX5_may (rmm 2 47) (wPc g (E5 aK aV) ((wC g q) (C, N)) sz [.ref (q 0 0), .int a1, .int a2, .int a3, .int a4, .int a5, .int a6]) (va_Qi (fun (r : Int32) (u : (Nat → Bun) × (Nat → Lon)) => u.2 = N ∧ post r u.1) (wB g (wC g q) (va_A ((wC g q) (C, N)) sz)) (va_A ((wC g q) (C, N)) sz)) 0 0 (va_A ((wC g q) (C, N)) sz) := by
  refine mstart (Qf := fun A => va_Qi (fun (r : Int32) (u : (Nat → Bun) × (Nat → Lon)) => u.2 = N ∧ post r u.1) (wB g (wC g q) A) A) (by decide) rfl (Nat.le_of_ble_eq_true rfl) ?_
  intro p e s m args below meth c A Q H locs ls hC hr hlocks hname hQ hA hK hE hw hl
  have hC : CallFix p m c cX5_may 8 s args wsX5_may RX5 := hC
  obtain ⟨hx, hb, -, hown, hts⟩ := id hC
  have hl : lv_has ls 8 [(0, .ref (q 0 0)), (1, .int a1), (2, .int a2), (3, .int a3), (4, .int a4), (5, .int a5), (6, .int a6)] := hl
  rw [wX5_may] at h
  have hinX1 : ∀ w ∈ wsX10, w ∈ wsX5_may := fun w hw9 => List.mem_cons_of_mem _ (List.mem_append_right _ hw9)
  have hinX5 : ∀ w ∈ wsX50, w ∈ wsX5_may := fun w hw9 => List.mem_cons_of_mem _ (List.mem_append_left _ (List.mem_append_right _ hw9))
  refine lv_aload_n hx hb dX5_may_0 rfl (lv_at hl 0 rfl) ?_
  refine O5_g0 hC hinX5 hK (hw.sub sC1O) (List.mem_of_getElem? (i := 1) rfl) dX5_may_1 ?_
  refine lv_iload_n hx hb dX5_may_4 rfl (lv_at hl 1 rfl) ?_
  refine mcalli (w1 := (fun u9 : Bun => wC g q (va_up C 1 u9, N))) (va_runVN (C := RX1) (As := [.int a1]) (rest := []) hC (kX1_hasTeam l g aK aV (q 1) H.size (C 1) a1 _ h) ⟨va_cnB 1 hts gX5_may_X1_hasTeam_n116 rfl rfl rfl hE.nMX5_116 (hts (.initialized RX1) (List.mem_of_getElem? (i := 3) rfl)) (by decide +kernel) ⟨Nat.le_of_ble_eq_true rfl, Nat.le_of_ble_eq_true rfl⟩, (hts (.instanceMethod yX1_hasTeam) (List.mem_of_getElem? (i := 2) rfl)), (hts (.selects RX1 yX1_hasTeam yX1_hasTeam) (List.mem_of_getElem? (i := 4) rfl))⟩ (mpreV (E5_ok aK aV) hK hE hA hw (sC1P isP1) 0 rfl rfl) rfl rfl hl.1 rfl (lv_room (Nat.le_of_ble_eq_true rfl)) dX5_may_5 ⟨Nat.zero_le _, Nat.zero_le _⟩) hA hw (sC1P isP1) (fun u9 => sCP isP1 u9) (fun r1 u2 H locs h hw => ?_)
  obtain ⟨hu, h⟩ := h
  replace hu := hu.symm
  subst hu
  replace hw : Wd g.1 A s.heap ((wC g q) (C, N)) H locs := by first | exact hw | (simpa only [up_self] using hw)
  obtain ⟨J3, hJ4, h⟩ := h
  have join5 : ∀  (H : Heap) (locs : List Loc) (ls : Array Slot), J3 () → Wd g.1 A s.heap ((wC g q) (C, N)) H locs → lv_has ls 8 [(0, .ref (q 0 0))] → W p l e (rmm 2 47) s m args below meth c H locs 0 0 Q (F0 m 29 ls []) := by
    intro  H locs ls h hw hl
    replace h := hJ4 () h
    refine lv_aload_n hx hb dX5_may_29 rfl (lv_at hl 0 rfl) ?_
    refine lv_iconst (v := (0 : Int32)) hx hb dX5_may_30 (by decide) ?_
    refine mcalli (w1 := (wC g q)) (va_runV (As := [.int (0 : Int32)]) (rest := []) hC (kX5_finding l g aK aV q H.size C N (0 : Int32) _ h) (cwV 1 hts gX5_may_X5_finding rfl rfl rfl (by decide +kernel) ⟨Nat.le_of_ble_eq_true rfl, Nat.le_of_ble_eq_true rfl⟩) (mpreV (E5_ok aK aV) hK hE hA hw (Sub1.refl _) 0 rfl rfl) rfl rfl hl.1 rfl (lv_room (Nat.le_of_ble_eq_true rfl)) dX5_may_31 ⟨Nat.zero_le _, Nat.zero_le _⟩) hA hw (Sub1.refl _) (fun u9 => Sub.whole (wC_map u9.1 u9.2)) (fun r6 u7 H locs h hw => ?_)
    obtain ⟨C8, N9⟩ := u7
    obtain ⟨hu, h⟩ := h
    replace hu : N = N9 := hu.symm
    subst hu
    rw [hQ]
    exact mreti (w := (wC g q)) (u := (C8, N)) hC hr hlocks hK hw ⟨rfl, h⟩ dX5_may_34
  refine lv_if_eq (tgt := 29) hx hb dX5_may_8 (by decide) (fun c34 => ?_) (fun c34 => ?_)
  · replace h := h.1 c34
    exact join5  _ _ _ h hw (lv_sub hl [0] rfl)
  · replace h := h.2 c34
    refine lv_aload_n hx hb dX5_may_11 rfl (lv_at hl 0 rfl) ?_
    refine O5_g0 hC hinX5 hK (hw.sub sC1O) (List.mem_of_getElem? (i := 1) rfl) dX5_may_12 ?_
    refine lv_iload_n hx hb dX5_may_15 rfl (lv_at hl 2 rfl) ?_
    refine mcalli (w1 := (fun u9 : Bun => wC g q (va_up C 1 u9, N))) (va_runVN (C := RX1) (As := [.int a2]) (rest := []) hC (kX1_hasField l g aK aV (q 1) H.size (C 1) a2 _ h) ⟨va_cnB 1 hts gX5_may_X1_hasField_n73 rfl rfl rfl hE.nMX5_73 (hts (.initialized RX1) (List.mem_of_getElem? (i := 3) rfl)) (by decide +kernel) ⟨Nat.le_of_ble_eq_true rfl, Nat.le_of_ble_eq_true rfl⟩, (hts (.instanceMethod yX1_hasField) (List.mem_of_getElem? (i := 7) rfl)), (hts (.selects RX1 yX1_hasField yX1_hasField) (List.mem_of_getElem? (i := 8) rfl))⟩ (mpreV (E5_ok aK aV) hK hE hA hw (sC1P isP1) 0 rfl rfl) rfl rfl hl.1 rfl (lv_room (Nat.le_of_ble_eq_true rfl)) dX5_may_16 ⟨Nat.zero_le _, Nat.zero_le _⟩) hA hw (sC1P isP1) (fun u9 => sCP isP1 u9) (fun r10 u11 H locs h hw => ?_)
    obtain ⟨hu, h⟩ := h
    replace hu := hu.symm
    subst hu
    replace hw : Wd g.1 A s.heap ((wC g q) (C, N)) H locs := by first | exact hw | (simpa only [up_self] using hw)
    refine lv_if_eq (tgt := 29) hx hb dX5_may_19 (by decide) (fun c33 => ?_) (fun c33 => ?_)
    · replace h := h.1 c33
      exact join5  _ _ _ h hw (lv_sub hl [0] rfl)
    · replace h := h.2 c33
      refine lv_iload_n hx hb dX5_may_22 rfl (lv_at hl 3 rfl) ?_
      refine mcalli (w1 := (fun _ => (wC g q) (C, N))) (wc := fun _ : Unit => ([] : va_W)) (u := ()) (va_runS (As := [.int a3]) (rest := []) hC (kX5_isCell l g aK aV H.size a3 _ h) (va_cwS 1 hts gX5_may_X5_isCell rfl rfl rfl (by decide +kernel) ⟨Nat.le_of_ble_eq_true rfl, Nat.le_of_ble_eq_true rfl⟩) (mpre (E5_ok aK aV) hK hE hA hw (Sub1.nil _)) rfl rfl hl.1 rfl (lv_room (Nat.le_of_ble_eq_true rfl)) dX5_may_23 ⟨Nat.zero_le _, Nat.zero_le _⟩) hA hw (Sub1.nil _) (fun _ => Sub.nil _) (fun r12 u13 H locs h hw => ?_)
      obtain ⟨_, h⟩ := h
      refine lv_if_ne (tgt := 35) hx hb dX5_may_26 (by decide) (fun c32 => ?_) (fun c32 => ?_)
      · replace h := h.2 c32
        refine lv_iload hx hb dX5_may_35 (lv_at hl 4 rfl) ?_
        refine lv_iconst (v := (-1 : Int32)) hx hb dX5_may_37 (by decide) ?_
        obtain ⟨J14, hJ15, h⟩ := h
        have join16 : ∀  (H : Heap) (locs : List Loc) (ls : Array Slot), J14 () → Wd g.1 A s.heap ((wC g q) (C, N)) H locs → lv_has ls 8 [(0, .ref (q 0 0))] → W p l e (rmm 2 47) s m args below meth c H locs 0 0 Q (F0 m 58 ls []) := by
          intro  H locs ls h hw hl
          replace h := hJ15 () h
          refine lv_aload_n hx hb dX5_may_58 rfl (lv_at hl 0 rfl) ?_
          refine lv_iconst (v := (0 : Int32)) hx hb dX5_may_59 (by decide) ?_
          refine mcalli (w1 := (wC g q)) (va_runV (As := [.int (0 : Int32)]) (rest := []) hC (kX5_finding l g aK aV q H.size C N (0 : Int32) _ h) (cwV 1 hts gX5_may_X5_finding rfl rfl rfl (by decide +kernel) ⟨Nat.le_of_ble_eq_true rfl, Nat.le_of_ble_eq_true rfl⟩) (mpreV (E5_ok aK aV) hK hE hA hw (Sub1.refl _) 0 rfl rfl) rfl rfl hl.1 rfl (lv_room (Nat.le_of_ble_eq_true rfl)) dX5_may_60 ⟨Nat.zero_le _, Nat.zero_le _⟩) hA hw (Sub1.refl _) (fun u9 => Sub.whole (wC_map u9.1 u9.2)) (fun r17 u18 H locs h hw => ?_)
          obtain ⟨C19, N20⟩ := u18
          obtain ⟨hu, h⟩ := h
          replace hu : N = N20 := hu.symm
          subst hu
          rw [hQ]
          exact mreti (w := (wC g q)) (u := (C19, N)) hC hr hlocks hK hw ⟨rfl, h⟩ dX5_may_63
        refine lv_icmp_lt (tgt := 58) hx hb dX5_may_38 (by decide) (fun c31 => ?_) (fun c31 => ?_)
        · replace h := h.1 c31
          exact join16  _ _ _ h hw (lv_sub hl [0] rfl)
        · replace h := h.2 c31
          refine lv_iload hx hb dX5_may_41 (lv_at hl 4 rfl) ?_
          refine lv_iconst (v := (4 : Int32)) hx hb dX5_may_43 (by decide) ?_
          refine lv_icmp_ge (tgt := 58) hx hb dX5_may_44 (by decide) (fun c30 => ?_) (fun c30 => ?_)
          · replace h := h.1 c30
            exact join16  _ _ _ h hw (lv_sub hl [0] rfl)
          · replace h := h.2 c30
            refine lv_iload hx hb dX5_may_47 (lv_at hl 5 rfl) ?_
            refine lv_if_lt (tgt := 58) hx hb dX5_may_49 (by decide) (fun c29 => ?_) (fun c29 => ?_)
            · replace h := h.1 c29
              exact join16  _ _ _ h hw (lv_sub hl [0] rfl)
            · replace h := h.2 c29
              refine lv_iload hx hb dX5_may_52 (lv_at hl 5 rfl) ?_
              refine lv_iconst (v := (4 : Int32)) hx hb dX5_may_54 (by decide) ?_
              refine lv_icmp_lt (tgt := 64) hx hb dX5_may_55 (by decide) (fun c28 => ?_) (fun c28 => ?_)
              · replace h := h.1 c28
                refine lv_aload_n hx hb dX5_may_64 rfl (lv_at hl 0 rfl) ?_
                refine O5_g0 hC hinX5 hK (hw.sub sC1O) (List.mem_of_getElem? (i := 1) rfl) dX5_may_65 ?_
                refine lv_iload_n hx hb dX5_may_68 rfl (lv_at hl 2 rfl) ?_
                refine lv_iconst (v := (1 : Int32)) hx hb dX5_may_69 (by decide) ?_
                refine mcalli (w1 := (fun u9 : Bun => wC g q (va_up C 1 u9, N))) (va_runVN (C := RX1) (As := [.int a2, .int (1 : Int32)]) (rest := []) hC (kX1_mark l g aK aV (q 1) H.size (C 1) a2 (1 : Int32) _ h) ⟨va_cnB 2 hts gX5_may_X1_mark_n83 rfl rfl rfl hE.nMX5_83 (hts (.initialized RX1) (List.mem_of_getElem? (i := 3) rfl)) (by decide +kernel) ⟨Nat.le_of_ble_eq_true rfl, Nat.le_of_ble_eq_true rfl⟩, (hts (.instanceMethod yX1_mark) (List.mem_of_getElem? (i := 21) rfl)), (hts (.selects RX1 yX1_mark yX1_mark) (List.mem_of_getElem? (i := 22) rfl))⟩ (mpreV (E5_ok aK aV) hK hE hA hw (sC1P isP1) 0 rfl rfl) rfl rfl hl.1 rfl (lv_room (Nat.le_of_ble_eq_true rfl)) dX5_may_70 ⟨Nat.zero_le _, Nat.zero_le _⟩) hA hw (sC1P isP1) (fun u9 => sCP isP1 u9) (fun r21 u22 H locs h hw => ?_)
                obtain ⟨hu, h⟩ := h
                replace hu := hu.symm
                subst hu
                replace hw : Wd g.1 A s.heap ((wC g q) (C, N)) H locs := by first | exact hw | (simpa only [up_self] using hw)
                refine mcalli (w1 := (fun _ => (wC g q) (C, N))) (wc := fun _ : Unit => ([] : va_W)) (u := ()) (va_runS (As := [.int r21]) (rest := []) hC (kX5_cellsBeside l g aK aV H.size r21 _ h) (va_cwS 1 hts gX5_may_X5_cellsBeside rfl rfl rfl (by decide +kernel) ⟨Nat.le_of_ble_eq_true rfl, Nat.le_of_ble_eq_true rfl⟩) (mpre (E5_ok aK aV) hK hE hA hw (Sub1.nil _)) rfl rfl hl.1 rfl (lv_room (Nat.le_of_ble_eq_true rfl)) dX5_may_73 ⟨Nat.zero_le _, Nat.zero_le _⟩) hA hw (Sub1.nil _) (fun _ => Sub.nil _) (fun r23 u24 H locs h hw => ?_)
                obtain ⟨_, h⟩ := h
                refine lv_istore (lv' := [(7, .int r23), (0, .ref (q 0 0)), (1, .int a1), (2, .int a2), (3, .int a3), (4, .int a4), (5, .int a5), (6, .int a6)]) hx hb dX5_may_76 hl (by decide) rfl (fun ls hl => ?_)
                refine lv_aload_n hx hb dX5_may_78 rfl (lv_at hl 1 rfl) ?_
                refine O5_g0 hC hinX5 hK (hw.sub sC1O) (List.mem_of_getElem? (i := 1) rfl) dX5_may_79 ?_
                refine P5_pg4 hC hinX1 hK (hw.sub (sC1P isP1)) hE.nFX5_119 dX5_may_82 ?_
                refine lv_iload_n hx hb dX5_may_85 rfl (lv_at hl 2 rfl) ?_
                obtain ⟨hi, h⟩ := h
                refine P5_pl4 hC hK (hw.sub (sC1P isP1)) hi dX5_may_86 ?_
                refine lv_iload hx hb dX5_may_87 (lv_at hl 0 rfl) ?_
                refine lv_iload_n hx hb dX5_may_89 rfl (lv_at hl 4 rfl) ?_
                refine lv_iload hx hb dX5_may_90 (lv_at hl 5 rfl) ?_
                refine lv_iload hx hb dX5_may_92 (lv_at hl 6 rfl) ?_
                refine lv_iload hx hb dX5_may_94 (lv_at hl 7 rfl) ?_
                refine mcalli (w1 := (fun _ => (wC g q) (C, N))) (wc := fun _ : Unit => ([] : va_W)) (u := ()) (va_runS (As := [.int (C 1 5 a1.toNatClampNeg), .int r23, .int a3, .int a4, .int a5, .int a6]) (rest := []) hC (kX5_mayStep l g aK aV H.size (C 1 5 a1.toNatClampNeg) r23 a3 a4 a5 a6 _ h) (va_cwS 6 hts gX5_may_X5_mayStep rfl rfl rfl (by decide +kernel) ⟨Nat.le_of_ble_eq_true rfl, Nat.le_of_ble_eq_true rfl⟩) (mpre (E5_ok aK aV) hK hE hA hw (Sub1.nil _)) rfl rfl hl.1 rfl (lv_room (Nat.le_of_ble_eq_true rfl)) dX5_may_96 ⟨Nat.zero_le _, Nat.zero_le _⟩) hA hw (Sub1.nil _) (fun _ => Sub.nil _) (fun r25 u26 H locs h hw => ?_)
                obtain ⟨_, h⟩ := h
                refine lv_if_eq (tgt := 106) hx hb dX5_may_99 (by decide) (fun c27 => ?_) (fun c27 => ?_)
                · replace h := h.1 c27
                  refine lv_iconst (v := (0 : Int32)) hx hb dX5_may_106 (by decide) ?_
                  rw [hQ]
                  exact mreti (w := (wC g q)) (u := (C, N)) hC hr hlocks hK hw ⟨rfl, h⟩ dX5_may_107
                · replace h := h.2 c27
                  refine lv_iconst (v := (1 : Int32)) hx hb dX5_may_102 (by decide) ?_
                  refine lv_goto (tgt := 107) hx hb dX5_may_103 (by decide) ?_
                  rw [hQ]
                  exact mreti (w := (wC g q)) (u := (C, N)) hC hr hlocks hK hw ⟨rfl, h⟩ dX5_may_107
              · replace h := h.2 c28
                exact join16  _ _ _ h hw (lv_sub hl [0] rfl)
      · replace h := h.1 c32
        exact join5  _ _ _ h hw (lv_sub hl [0] rfl)
def wX5_furrowsOf (C : Nat → Bun) (N : Nat → Lon) (a1 : Int32) (a2 : Int32) (post : Nat → (Nat → Bun) → Prop) : Prop :=
  vp_in a1 6 ∧ ∀ x1 : Int32, x1 = C 1 5 a1.toNatClampNeg → vp_in ((a2 * (6 : Int32)) + x1) 36 ∧ wX1_earth (C 1) a2 (fun r3 => wX1_mark (C 1) a2 (1 : Int32) (fun r5 => wX1_mark (C 1) a2 (2 : Int32) (fun r7 => wX1_mark (C 1) a2 (3 : Int32) (fun r9 => wX0_ask (C (((a2 * (6 : Int32)) + x1).toNatClampNeg + 11)) x1 r3 r5 r7 r9 (fun S14 => ∀ C13 : Nat → Bun, C13 = va_up C (((a2 * (6 : Int32)) + x1).toNatClampNeg + 11) S14 → post (((a2 * (6 : Int32)) + x1).toNatClampNeg + 11) C13)))))
set_option maxRecDepth 100000 in
set_option maxHeartbeats 4000000 in
theorem kX5_furrowsOf (l : Launch) (g : Gl) (aK : Nat → Nat) (aV : Nat → Nat) (q : Nat → Nat → Nat) (sz : Nat) (C : Nat → Bun) (N : Nat → Lon) (a1 : Int32) (a2 : Int32) (post : Nat → (Nat → Bun) → Prop) (h : wX5_furrowsOf C N a1 a2 post) : Met l yX5_furrowsOf wsX5_furrowsOf (rmm 22 674) (wPc g (E5 aK aV) ((wC g q) (C, N)) sz [.ref (q 0 0), .int a1, .int a2]) (va_Qr (fun u : Nat × (Nat → Bun) × (Nat → Lon) => isF u.1 ∧ u.2.2 = N ∧ post u.1 u.2.1) (wBr g q (va_A ((wC g q) (C, N)) sz)) (va_A ((wC g q) (C, N)) sz)) 0 0 (va_A ((wC g q) (C, N)) sz) := by
  refine mstart (Qf := fun A => va_Qr (fun u : Nat × (Nat → Bun) × (Nat → Lon) => isF u.1 ∧ u.2.2 = N ∧ post u.1 u.2.1) (wBr g q A) A) (by decide) rfl (Nat.le_of_ble_eq_true rfl) ?_
  intro p e s m args below meth c A Q H locs ls hC hr hlocks hname hQ hA hK hE hw hl
  have hC : CallFix p m c cX5_furrowsOf 5 s args wsX5_furrowsOf RX5 := hC
  obtain ⟨hx, hb, -, hown, hts⟩ := id hC
  have hl : lv_has ls 5 [(0, .ref (q 0 0)), (1, .int a1), (2, .int a2)] := hl
  rw [wX5_furrowsOf] at h
  have hinX1 : ∀ w ∈ wsX10, w ∈ wsX5_furrowsOf := fun w hw9 => List.mem_cons_of_mem _ (List.mem_append_left _ (List.mem_append_right _ hw9))
  have hinX5 : ∀ w ∈ wsX50, w ∈ wsX5_furrowsOf := fun w hw9 => List.mem_cons_of_mem _ (List.mem_append_left _ (List.mem_append_left _ (List.mem_append_right _ hw9)))
  refine lv_aload_n hx hb dX5_furrowsOf_0 rfl (lv_at hl 0 rfl) ?_
  refine O5_g0 hC hinX5 hK (hw.sub sC1O) (List.mem_of_getElem? (i := 1) rfl) dX5_furrowsOf_1 ?_
  refine P5_pg4 hC hinX1 hK (hw.sub (sC1P isP1)) hE.nFX5_119 dX5_furrowsOf_4 ?_
  refine lv_iload_n hx hb dX5_furrowsOf_7 rfl (lv_at hl 1 rfl) ?_
  obtain ⟨hi, h⟩ := h
  refine P5_pl4 hC hK (hw.sub (sC1P isP1)) hi dX5_furrowsOf_8 ?_
  refine lv_topi (fun x1 ex1 => ?_)
  replace h := h x1 ex1
  refine lv_istore_n (lv' := [(3, .int x1), (0, .ref (q 0 0)), (1, .int a1), (2, .int a2)]) hx hb dX5_furrowsOf_9 rfl hl (by decide) rfl (fun ls hl => ?_)
  refine lv_aload_n hx hb dX5_furrowsOf_10 rfl (lv_at hl 1 rfl) ?_
  refine O5_g7 hC hinX5 hK (hw.sub sC1O) (List.mem_of_getElem? (i := 2) rfl) dX5_furrowsOf_11 ?_
  refine lv_iload_n hx hb dX5_furrowsOf_14 rfl (lv_at hl 3 rfl) ?_
  refine lv_bipush (v := (6 : Int32)) hx hb dX5_furrowsOf_15 (by decide) ?_
  refine lv_imul hx hb dX5_furrowsOf_17 ?_
  refine lv_iload_n hx hb dX5_furrowsOf_18 rfl (lv_at hl 0 rfl) ?_
  refine lv_iadd hx hb dX5_furrowsOf_19 ?_
  obtain ⟨hi2, h⟩ := h
  refine O5_asked hC hK (hw.sub sC1O) hi2 dX5_furrowsOf_20 ?_
  refine lv_astore (lv' := [(4, .ref (q (((a2 * (6 : Int32)) + x1).toNatClampNeg + 11) 0)), (3, .int x1), (0, .ref (q 0 0)), (1, .int a1), (2, .int a2)]) hx hb dX5_furrowsOf_21 hl (by decide) rfl (fun ls hl => ?_)
  refine lv_aload hx hb dX5_furrowsOf_23 (lv_at hl 0 rfl) ?_
  refine lv_iload_n hx hb dX5_furrowsOf_25 rfl (lv_at hl 1 rfl) ?_
  refine lv_aload_n hx hb dX5_furrowsOf_26 rfl (lv_at hl 2 rfl) ?_
  refine O5_g0 hC hinX5 hK (hw.sub sC1O) (List.mem_of_getElem? (i := 1) rfl) dX5_furrowsOf_27 ?_
  refine lv_iload_n hx hb dX5_furrowsOf_30 rfl (lv_at hl 4 rfl) ?_
  refine mcalli (w1 := (fun u9 : Bun => wC g q (va_up C 1 u9, N))) (va_runVN (C := RX1) (As := [.int a2]) (rest := [.int x1, .ref (q (((a2 * (6 : Int32)) + x1).toNatClampNeg + 11) 0)]) hC (kX1_earth l g aK aV (q 1) H.size (C 1) a2 _ h) ⟨va_cnB 1 hts gX5_furrowsOf_X1_earth_n77 rfl rfl rfl hE.nMX5_77 (hts (.initialized RX1) (List.mem_of_getElem? (i := 4) rfl)) (by decide +kernel) ⟨Nat.le_of_ble_eq_true rfl, Nat.le_of_ble_eq_true rfl⟩, (hts (.instanceMethod yX1_earth) (List.mem_of_getElem? (i := 3) rfl)), (hts (.selects RX1 yX1_earth yX1_earth) (List.mem_of_getElem? (i := 5) rfl))⟩ (mpreV (E5_ok aK aV) hK hE hA hw (sC1P isP1) 0 rfl rfl) rfl rfl hl.1 rfl (lv_room (Nat.le_of_ble_eq_true rfl)) dX5_furrowsOf_31 ⟨Nat.zero_le _, Nat.zero_le _⟩) hA hw (sC1P isP1) (fun u9 => sCP isP1 u9) (fun r3 u4 H locs h hw => ?_)
  obtain ⟨hu, h⟩ := h
  replace hu := hu.symm
  subst hu
  replace hw : Wd g.1 A s.heap ((wC g q) (C, N)) H locs := by first | exact hw | (simpa only [up_self] using hw)
  refine lv_aload_n hx hb dX5_furrowsOf_34 rfl (lv_at hl 2 rfl) ?_
  refine O5_g0 hC hinX5 hK (hw.sub sC1O) (List.mem_of_getElem? (i := 1) rfl) dX5_furrowsOf_35 ?_
  refine lv_iload_n hx hb dX5_furrowsOf_38 rfl (lv_at hl 4 rfl) ?_
  refine lv_iconst (v := (1 : Int32)) hx hb dX5_furrowsOf_39 (by decide) ?_
  refine mcalli (w1 := (fun u9 : Bun => wC g q (va_up C 1 u9, N))) (va_runVN (C := RX1) (As := [.int a2, .int (1 : Int32)]) (rest := [.int r3, .int x1, .ref (q (((a2 * (6 : Int32)) + x1).toNatClampNeg + 11) 0)]) hC (kX1_mark l g aK aV (q 1) H.size (C 1) a2 (1 : Int32) _ h) ⟨va_cnB 2 hts gX5_furrowsOf_X1_mark_n83 rfl rfl rfl hE.nMX5_83 (hts (.initialized RX1) (List.mem_of_getElem? (i := 4) rfl)) (by decide +kernel) ⟨Nat.le_of_ble_eq_true rfl, Nat.le_of_ble_eq_true rfl⟩, (hts (.instanceMethod yX1_mark) (List.mem_of_getElem? (i := 9) rfl)), (hts (.selects RX1 yX1_mark yX1_mark) (List.mem_of_getElem? (i := 10) rfl))⟩ (mpreV (E5_ok aK aV) hK hE hA hw (sC1P isP1) 0 rfl rfl) rfl rfl hl.1 rfl (lv_room (Nat.le_of_ble_eq_true rfl)) dX5_furrowsOf_40 ⟨Nat.zero_le _, Nat.zero_le _⟩) hA hw (sC1P isP1) (fun u9 => sCP isP1 u9) (fun r5 u6 H locs h hw => ?_)
  obtain ⟨hu, h⟩ := h
  replace hu := hu.symm
  subst hu
  replace hw : Wd g.1 A s.heap ((wC g q) (C, N)) H locs := by first | exact hw | (simpa only [up_self] using hw)
  refine lv_aload_n hx hb dX5_furrowsOf_43 rfl (lv_at hl 2 rfl) ?_
  refine O5_g0 hC hinX5 hK (hw.sub sC1O) (List.mem_of_getElem? (i := 1) rfl) dX5_furrowsOf_44 ?_
  refine lv_iload_n hx hb dX5_furrowsOf_47 rfl (lv_at hl 4 rfl) ?_
  refine lv_iconst (v := (2 : Int32)) hx hb dX5_furrowsOf_48 (by decide) ?_
  refine mcalli (w1 := (fun u9 : Bun => wC g q (va_up C 1 u9, N))) (va_runVN (C := RX1) (As := [.int a2, .int (2 : Int32)]) (rest := [.int r5, .int r3, .int x1, .ref (q (((a2 * (6 : Int32)) + x1).toNatClampNeg + 11) 0)]) hC (kX1_mark l g aK aV (q 1) H.size (C 1) a2 (2 : Int32) _ h) ⟨va_cnB 2 hts gX5_furrowsOf_X1_mark_n83 rfl rfl rfl hE.nMX5_83 (hts (.initialized RX1) (List.mem_of_getElem? (i := 4) rfl)) (by decide +kernel) ⟨Nat.le_of_ble_eq_true rfl, Nat.le_of_ble_eq_true rfl⟩, (hts (.instanceMethod yX1_mark) (List.mem_of_getElem? (i := 9) rfl)), (hts (.selects RX1 yX1_mark yX1_mark) (List.mem_of_getElem? (i := 10) rfl))⟩ (mpreV (E5_ok aK aV) hK hE hA hw (sC1P isP1) 0 rfl rfl) rfl rfl hl.1 rfl (lv_room (Nat.le_of_ble_eq_true rfl)) dX5_furrowsOf_49 ⟨Nat.zero_le _, Nat.zero_le _⟩) hA hw (sC1P isP1) (fun u9 => sCP isP1 u9) (fun r7 u8 H locs h hw => ?_)
  obtain ⟨hu, h⟩ := h
  replace hu := hu.symm
  subst hu
  replace hw : Wd g.1 A s.heap ((wC g q) (C, N)) H locs := by first | exact hw | (simpa only [up_self] using hw)
  refine lv_aload_n hx hb dX5_furrowsOf_52 rfl (lv_at hl 2 rfl) ?_
  refine O5_g0 hC hinX5 hK (hw.sub sC1O) (List.mem_of_getElem? (i := 1) rfl) dX5_furrowsOf_53 ?_
  refine lv_iload_n hx hb dX5_furrowsOf_56 rfl (lv_at hl 4 rfl) ?_
  refine lv_iconst (v := (3 : Int32)) hx hb dX5_furrowsOf_57 (by decide) ?_
  refine mcalli (w1 := (fun u9 : Bun => wC g q (va_up C 1 u9, N))) (va_runVN (C := RX1) (As := [.int a2, .int (3 : Int32)]) (rest := [.int r7, .int r5, .int r3, .int x1, .ref (q (((a2 * (6 : Int32)) + x1).toNatClampNeg + 11) 0)]) hC (kX1_mark l g aK aV (q 1) H.size (C 1) a2 (3 : Int32) _ h) ⟨va_cnB 2 hts gX5_furrowsOf_X1_mark_n83 rfl rfl rfl hE.nMX5_83 (hts (.initialized RX1) (List.mem_of_getElem? (i := 4) rfl)) (by decide +kernel) ⟨Nat.le_of_ble_eq_true rfl, Nat.le_of_ble_eq_true rfl⟩, (hts (.instanceMethod yX1_mark) (List.mem_of_getElem? (i := 9) rfl)), (hts (.selects RX1 yX1_mark yX1_mark) (List.mem_of_getElem? (i := 10) rfl))⟩ (mpreV (E5_ok aK aV) hK hE hA hw (sC1P isP1) 0 rfl rfl) rfl rfl hl.1 rfl (lv_room (Nat.le_of_ble_eq_true rfl)) dX5_furrowsOf_58 ⟨Nat.zero_le _, Nat.zero_le _⟩) hA hw (sC1P isP1) (fun u9 => sCP isP1 u9) (fun r9 u10 H locs h hw => ?_)
  obtain ⟨hu, h⟩ := h
  replace hu := hu.symm
  subst hu
  replace hw : Wd g.1 A s.heap ((wC g q) (C, N)) H locs := by first | exact hw | (simpa only [up_self] using hw)
  refine mcallv (w1 := (fun u9 : Bun => wC g q (va_up C (((a2 * (6 : Int32)) + x1).toNatClampNeg + 11) u9, N))) (va_runVN (C := RX0) (As := [.int x1, .int r3, .int r5, .int r7, .int r9]) (rest := []) hC (kX0_ask l g aK aV (q (((a2 * (6 : Int32)) + x1).toNatClampNeg + 11)) H.size (C (((a2 * (6 : Int32)) + x1).toNatClampNeg + 11)) x1 r3 r5 r7 r9 _ h) ⟨va_cnB 5 hts gX5_furrowsOf_X0_ask_n172 rfl rfl rfl hE.nMX5_172 (hts (.initialized RX0) (List.mem_of_getElem? (i := 14) rfl)) (by decide +kernel) ⟨Nat.le_of_ble_eq_true rfl, Nat.le_of_ble_eq_true rfl⟩, (hts (.instanceMethod yX0_ask) (List.mem_of_getElem? (i := 13) rfl)), (hts (.selects RX0 yX0_ask yX0_ask) (List.mem_of_getElem? (i := 15) rfl))⟩ (mpreV (E5_ok aK aV) hK hE hA hw (sC1F (isF_of hi2)) 0 rfl rfl) rfl rfl hl.1 rfl (lv_room (Nat.le_of_ble_eq_true rfl)) dX5_furrowsOf_61 ⟨Nat.zero_le _, Nat.zero_le _⟩) hA hw (sC1F (isF_of hi2)) (fun u9 => sCF (isF_of hi2) u9) (fun u12 H locs h hw => ?_)
  obtain ⟨S14, rfl⟩ : ∃ z, z = u12 := ⟨_, rfl⟩
  obtain ⟨C13, eC13⟩ : ∃ z, z = va_up C (((a2 * (6 : Int32)) + x1).toNatClampNeg + 11) S14 := ⟨_, rfl⟩
  replace h := h C13 eC13
  replace hw : Wd g.1 A s.heap ((wC g q) (C13, N)) H locs := by rw [eC13]; exact hw
  refine lv_aload hx hb dX5_furrowsOf_64 (lv_at hl 0 rfl) ?_
  rw [hQ]
  exact mretr (b := ((a2 * (6 : Int32)) + x1).toNatClampNeg + 11) hC hr hlocks hK hw (isF_of hi2) h dX5_furrowsOf_66
def wX5_costOf (C : Nat → Bun) (N : Nat → Lon) (a1 : Int32) (a2 : Nat) (post : Int32 → Prop) : Prop :=
  isF a2 ∧ (((C a2 0 6) = 0 → post (1000000 : Int32)) ∧ (¬ ((C a2 0 6) = 0) → vp_in a1 6 ∧ vp_in a1 6 ∧ vp_in (C 1 5 a1.toNatClampNeg) 6 ∧ post (((C 1 6 a1.toNatClampNeg) * (C a2 0 5)) + ((tbDear (C 1 5 a1.toNatClampNeg).toNatClampNeg) * (C a2 0 7)))))
set_option maxRecDepth 100000 in
set_option maxHeartbeats 4000000 in
theorem kX5_costOf (l : Launch) (g : Gl) (aK : Nat → Nat) (aV : Nat → Nat) (q : Nat → Nat → Nat) (sz : Nat) (C : Nat → Bun) (N : Nat → Lon) (a1 : Int32) (a2 : Nat) (post : Int32 → Prop) (h : wX5_costOf C N a1 a2 post) : Met l yX5_costOf wsX5_costOf (rmm 0 0) (wPc g (E5 aK aV) ((wC g q) (C, N)) sz [.ref (q 0 0), .int a1, .ref (q a2 0)]) (va_Qi (fun (r : Int32) (u : (Nat → Bun) × (Nat → Lon)) => u = (C, N) ∧ post r) (wB g (wC g q) (va_A ((wC g q) (C, N)) sz)) (va_A ((wC g q) (C, N)) sz)) 0 0 (va_A ((wC g q) (C, N)) sz) := by
  refine mstart (Qf := fun A => va_Qi (fun (r : Int32) (u : (Nat → Bun) × (Nat → Lon)) => u = (C, N) ∧ post r) (wB g (wC g q) A) A) (by decide) rfl (Nat.le_of_ble_eq_true rfl) ?_
  intro p e s m args below meth c A Q H locs ls hC hr hlocks hname hQ hA hK hE hw hl
  have hC : CallFix p m c cX5_costOf 3 s args wsX5_costOf RX5 := hC
  obtain ⟨hx, hb, -, hown, hts⟩ := id hC
  have hl : lv_has ls 3 [(0, .ref (q 0 0)), (1, .int a1), (2, .ref (q a2 0))] := hl
  rw [wX5_costOf] at h
  have hinX0 : ∀ w ∈ wsX00, w ∈ wsX5_costOf := fun w hw9 => List.mem_cons_of_mem _ (List.mem_append_left _ (List.mem_append_left _ (List.mem_append_right _ hw9)))
  have hinX1 : ∀ w ∈ wsX10, w ∈ wsX5_costOf := fun w hw9 => List.mem_cons_of_mem _ (List.mem_append_right _ hw9)
  have hinX5 : ∀ w ∈ wsX50, w ∈ wsX5_costOf := fun w hw9 => List.mem_cons_of_mem _ (List.mem_append_left _ (List.mem_append_right _ hw9))
  obtain ⟨hF, h⟩ := h
  refine lv_aload_n hx hb dX5_costOf_0 rfl (lv_at hl 2 rfl) ?_
  refine F5_fg6 hC hinX0 hK (hw.sub (sC1F hF)) hE.nFX5_145 dX5_costOf_1 ?_
  refine lv_if_ne (tgt := 10) hx hb dX5_costOf_4 (by decide) (fun c2 => ?_) (fun c2 => ?_)
  · replace h := h.2 c2
    refine lv_aload_n hx hb dX5_costOf_10 rfl (lv_at hl 0 rfl) ?_
    refine O5_g0 hC hinX5 hK (hw.sub sC1O) (List.mem_of_getElem? (i := 2) rfl) dX5_costOf_11 ?_
    refine P5_pg5 hC hinX1 hK (hw.sub (sC1P isP1)) hE.nFX5_122 dX5_costOf_14 ?_
    refine lv_iload_n hx hb dX5_costOf_17 rfl (lv_at hl 1 rfl) ?_
    obtain ⟨hi, h⟩ := h
    refine P5_pl5 hC hK (hw.sub (sC1P isP1)) hi dX5_costOf_18 ?_
    refine lv_aload_n hx hb dX5_costOf_19 rfl (lv_at hl 2 rfl) ?_
    refine F5_fg5 hC hinX0 hK (hw.sub (sC1F hF)) hE.nFX5_148 dX5_costOf_20 ?_
    refine lv_imul hx hb dX5_costOf_23 ?_
    obtain ⟨t1, hZt1, hTt1⟩ := hE.tbDear
    refine va_gets hx hb hZt1 hw.2.2 hown (hts (.fieldLink RX5 125 "OneFurrow" "DEAR" "[I") (List.mem_of_getElem? (i := 3) rfl)) (fun _ h9 => h9) dX5_costOf_24 ?_
    refine lv_aload_n hx hb dX5_costOf_27 rfl (lv_at hl 0 rfl) ?_
    refine O5_g0 hC hinX5 hK (hw.sub sC1O) (List.mem_of_getElem? (i := 2) rfl) dX5_costOf_28 ?_
    refine P5_pg4 hC hinX1 hK (hw.sub (sC1P isP1)) hE.nFX5_119 dX5_costOf_31 ?_
    refine lv_iload_n hx hb dX5_costOf_34 rfl (lv_at hl 1 rfl) ?_
    obtain ⟨hi, h⟩ := h
    refine P5_pl4 hC hK (hw.sub (sC1P isP1)) hi dX5_costOf_35 ?_
    obtain ⟨hi, h⟩ := h
    refine va_ti hx hb hTt1 hw.2.2 hi rfl dX5_costOf_36 ?_
    refine lv_aload_n hx hb dX5_costOf_37 rfl (lv_at hl 2 rfl) ?_
    refine F5_fg7 hC hinX0 hK (hw.sub (sC1F hF)) hE.nFX5_155 dX5_costOf_38 ?_
    refine lv_imul hx hb dX5_costOf_41 ?_
    refine lv_iadd hx hb dX5_costOf_42 ?_
    rw [hQ]
    exact mreti (w := (wC g q)) (u := (C, N)) hC hr hlocks hK hw ⟨rfl, h⟩ dX5_costOf_43
  · replace h := h.1 c2
    refine lv_ldc (v := (1000000 : Int32)) hx hb hown (hts (.constant RX5 168 (1000000)) (List.mem_of_getElem? (i := 1) rfl)) dX5_costOf_7 ?_
    rw [hQ]
    exact mreti (w := (wC g q)) (u := (C, N)) hC hr hlocks hK hw ⟨rfl, h⟩ dX5_costOf_9
def wX5_best (C : Nat → Bun) (N : Nat → Lon) (a1 : Int32) (a2 : Int32) (a3 : Int32) (post : Int32 → (Nat → Bun) → Prop) : Prop :=
  wX1_hasTeam (C 1) a1 (fun r1 => wjoin (σ := Unit) (fun _ => wX5_finding C N (0 : Int32) (fun r6 C8 => post r6 C8)) (fun J3 => ((r1 = 0 → J3 ()) ∧ (¬ (r1 = 0) → wX1_hasField (C 1) a2 (fun r10 => ((r10 = 0 → J3 ()) ∧ (¬ (r10 = 0) → ((a3 < (-2 : Int32) → J3 ()) ∧ (¬ (a3 < (-2 : Int32)) → ((a3 < (16 : Int32) → wX5_furrowsOf C N a1 a2 (fun b14 C16 => wjoin (σ := Unit) (fun _ => wX5_finding C16 N (3 : Int32) (fun r20 C22 => post r20 C22)) (fun J17 => (((C16 b14 0 6) = 0 → J17 ()) ∧ (¬ ((C16 b14 0 6) = 0) → ((a3 < (C16 b14 0 5) → ((a3 = (-1 : Int32) → wX5_costOf C16 N a1 b14 (fun r25 => post r25 C16)) ∧ (¬ (a3 = (-1 : Int32)) → ((a3 = (-2 : Int32) → post (C16 b14 0 7) C16) ∧ (¬ (a3 = (-2 : Int32)) → vp_in a3 16 ∧ post (C16 b14 9 a3.toNatClampNeg) C16))))) ∧ (¬ (a3 < (C16 b14 0 5)) → J17 ()))))))) ∧ (¬ (a3 < (16 : Int32)) → J3 ())))))))))))
set_option maxRecDepth 100000 in
set_option maxHeartbeats 4000000 in
theorem kX5_best (l : Launch) (g : Gl) (aK : Nat → Nat) (aV : Nat → Nat) (q : Nat → Nat → Nat) (sz : Nat) (C : Nat → Bun) (N : Nat → Lon) (a1 : Int32) (a2 : Int32) (a3 : Int32) (post : Int32 → (Nat → Bun) → Prop) (h : wX5_best C N a1 a2 a3 post) : Met l yX5_best wsX5_best (rmm 23 698) (wPc g (E5 aK aV) ((wC g q) (C, N)) sz [.ref (q 0 0), .int a1, .int a2, .int a3]) (va_Qi (fun (r : Int32) (u : (Nat → Bun) × (Nat → Lon)) => u.2 = N ∧ post r u.1) (wB g (wC g q) (va_A ((wC g q) (C, N)) sz)) (va_A ((wC g q) (C, N)) sz)) 0 0 (va_A ((wC g q) (C, N)) sz) := by
  refine mstart (Qf := fun A => va_Qi (fun (r : Int32) (u : (Nat → Bun) × (Nat → Lon)) => u.2 = N ∧ post r u.1) (wB g (wC g q) A) A) (by decide) rfl (Nat.le_of_ble_eq_true rfl) ?_
  intro p e s m args below meth c A Q H locs ls hC hr hlocks hname hQ hA hK hE hw hl
  have hC : CallFix p m c cX5_best 5 s args wsX5_best RX5 := hC
  obtain ⟨hx, hb, -, hown, hts⟩ := id hC
  have hl : lv_has ls 5 [(0, .ref (q 0 0)), (1, .int a1), (2, .int a2), (3, .int a3)] := hl
  rw [wX5_best] at h
  have hinX0 : ∀ w ∈ wsX00, w ∈ wsX5_best := fun w hw9 => List.mem_cons_of_mem _ (List.mem_append_left _ (List.mem_append_right _ hw9))
  have hinX5 : ∀ w ∈ wsX50, w ∈ wsX5_best := fun w hw9 => List.mem_cons_of_mem _ (List.mem_append_left _ (List.mem_append_left _ (List.mem_append_right _ hw9)))
  refine lv_aload_n hx hb dX5_best_0 rfl (lv_at hl 0 rfl) ?_
  refine O5_g0 hC hinX5 hK (hw.sub sC1O) (List.mem_of_getElem? (i := 1) rfl) dX5_best_1 ?_
  refine lv_iload_n hx hb dX5_best_4 rfl (lv_at hl 1 rfl) ?_
  refine mcalli (w1 := (fun u9 : Bun => wC g q (va_up C 1 u9, N))) (va_runVN (C := RX1) (As := [.int a1]) (rest := []) hC (kX1_hasTeam l g aK aV (q 1) H.size (C 1) a1 _ h) ⟨va_cnB 1 hts gX5_best_X1_hasTeam_n116 rfl rfl rfl hE.nMX5_116 (hts (.initialized RX1) (List.mem_of_getElem? (i := 3) rfl)) (by decide +kernel) ⟨Nat.le_of_ble_eq_true rfl, Nat.le_of_ble_eq_true rfl⟩, (hts (.instanceMethod yX1_hasTeam) (List.mem_of_getElem? (i := 2) rfl)), (hts (.selects RX1 yX1_hasTeam yX1_hasTeam) (List.mem_of_getElem? (i := 4) rfl))⟩ (mpreV (E5_ok aK aV) hK hE hA hw (sC1P isP1) 0 rfl rfl) rfl rfl hl.1 rfl (lv_room (Nat.le_of_ble_eq_true rfl)) dX5_best_5 ⟨Nat.zero_le _, Nat.zero_le _⟩) hA hw (sC1P isP1) (fun u9 => sCP isP1 u9) (fun r1 u2 H locs h hw => ?_)
  obtain ⟨hu, h⟩ := h
  replace hu := hu.symm
  subst hu
  replace hw : Wd g.1 A s.heap ((wC g q) (C, N)) H locs := by first | exact hw | (simpa only [up_self] using hw)
  obtain ⟨J3, hJ4, h⟩ := h
  have join5 : ∀  (H : Heap) (locs : List Loc) (ls : Array Slot), J3 () → Wd g.1 A s.heap ((wC g q) (C, N)) H locs → lv_has ls 5 [(0, .ref (q 0 0))] → W p l e (rmm 23 698) s m args below meth c H locs 0 0 Q (F0 m 34 ls []) := by
    intro  H locs ls h hw hl
    replace h := hJ4 () h
    refine lv_aload_n hx hb dX5_best_34 rfl (lv_at hl 0 rfl) ?_
    refine lv_iconst (v := (0 : Int32)) hx hb dX5_best_35 (by decide) ?_
    refine mcalli (w1 := (wC g q)) (va_runV (As := [.int (0 : Int32)]) (rest := []) hC (kX5_finding l g aK aV q H.size C N (0 : Int32) _ h) (cwV 1 hts gX5_best_X5_finding rfl rfl rfl (by decide +kernel) ⟨Nat.le_of_ble_eq_true rfl, Nat.le_of_ble_eq_true rfl⟩) (mpreV (E5_ok aK aV) hK hE hA hw (Sub1.refl _) 0 rfl rfl) rfl rfl hl.1 rfl (lv_room (Nat.le_of_ble_eq_true rfl)) dX5_best_36 ⟨Nat.zero_le _, Nat.zero_le _⟩) hA hw (Sub1.refl _) (fun u9 => Sub.whole (wC_map u9.1 u9.2)) (fun r6 u7 H locs h hw => ?_)
    obtain ⟨C8, N9⟩ := u7
    obtain ⟨hu, h⟩ := h
    replace hu : N = N9 := hu.symm
    subst hu
    rw [hQ]
    exact mreti (w := (wC g q)) (u := (C8, N)) hC hr hlocks hK hw ⟨rfl, h⟩ dX5_best_39
  refine lv_if_eq (tgt := 34) hx hb dX5_best_8 (by decide) (fun c33 => ?_) (fun c33 => ?_)
  · replace h := h.1 c33
    exact join5  _ _ _ h hw (lv_sub hl [0] rfl)
  · replace h := h.2 c33
    refine lv_aload_n hx hb dX5_best_11 rfl (lv_at hl 0 rfl) ?_
    refine O5_g0 hC hinX5 hK (hw.sub sC1O) (List.mem_of_getElem? (i := 1) rfl) dX5_best_12 ?_
    refine lv_iload_n hx hb dX5_best_15 rfl (lv_at hl 2 rfl) ?_
    refine mcalli (w1 := (fun u9 : Bun => wC g q (va_up C 1 u9, N))) (va_runVN (C := RX1) (As := [.int a2]) (rest := []) hC (kX1_hasField l g aK aV (q 1) H.size (C 1) a2 _ h) ⟨va_cnB 1 hts gX5_best_X1_hasField_n73 rfl rfl rfl hE.nMX5_73 (hts (.initialized RX1) (List.mem_of_getElem? (i := 3) rfl)) (by decide +kernel) ⟨Nat.le_of_ble_eq_true rfl, Nat.le_of_ble_eq_true rfl⟩, (hts (.instanceMethod yX1_hasField) (List.mem_of_getElem? (i := 7) rfl)), (hts (.selects RX1 yX1_hasField yX1_hasField) (List.mem_of_getElem? (i := 8) rfl))⟩ (mpreV (E5_ok aK aV) hK hE hA hw (sC1P isP1) 0 rfl rfl) rfl rfl hl.1 rfl (lv_room (Nat.le_of_ble_eq_true rfl)) dX5_best_16 ⟨Nat.zero_le _, Nat.zero_le _⟩) hA hw (sC1P isP1) (fun u9 => sCP isP1 u9) (fun r10 u11 H locs h hw => ?_)
    obtain ⟨hu, h⟩ := h
    replace hu := hu.symm
    subst hu
    replace hw : Wd g.1 A s.heap ((wC g q) (C, N)) H locs := by first | exact hw | (simpa only [up_self] using hw)
    refine lv_if_eq (tgt := 34) hx hb dX5_best_19 (by decide) (fun c32 => ?_) (fun c32 => ?_)
    · replace h := h.1 c32
      exact join5  _ _ _ h hw (lv_sub hl [0] rfl)
    · replace h := h.2 c32
      refine lv_iload_n hx hb dX5_best_22 rfl (lv_at hl 3 rfl) ?_
      refine lv_bipush (v := (-2 : Int32)) hx hb dX5_best_23 (by decide) ?_
      refine lv_icmp_lt (tgt := 34) hx hb dX5_best_25 (by decide) (fun c31 => ?_) (fun c31 => ?_)
      · replace h := h.1 c31
        exact join5  _ _ _ h hw (lv_sub hl [0] rfl)
      · replace h := h.2 c31
        refine lv_iload_n hx hb dX5_best_28 rfl (lv_at hl 3 rfl) ?_
        refine lv_bipush (v := (16 : Int32)) hx hb dX5_best_29 (by decide) ?_
        refine lv_icmp_lt (tgt := 40) hx hb dX5_best_31 (by decide) (fun c30 => ?_) (fun c30 => ?_)
        · replace h := h.1 c30
          refine lv_aload_n hx hb dX5_best_40 rfl (lv_at hl 0 rfl) ?_
          refine lv_iload_n hx hb dX5_best_41 rfl (lv_at hl 1 rfl) ?_
          refine lv_iload_n hx hb dX5_best_42 rfl (lv_at hl 2 rfl) ?_
          refine mcallr (va_runV (As := [.int a1, .int a2]) (rest := []) hC (kX5_furrowsOf l g aK aV q H.size C N a1 a2 _ h) (cwV 2 hts gX5_best_X5_furrowsOf rfl rfl rfl (by decide +kernel) ⟨Nat.le_of_ble_eq_true rfl, Nat.le_of_ble_eq_true rfl⟩) (mpreV (E5_ok aK aV) hK hE hA hw (Sub1.refl _) 0 rfl rfl) rfl rfl hl.1 rfl (lv_room (Nat.le_of_ble_eq_true rfl)) dX5_best_43 ⟨Nat.zero_le _, Nat.zero_le _⟩) hA hw (fun b14 C16 H locs hb15 h hw => ?_)
          refine lv_astore (lv' := [(4, .ref (q b14 0)), (0, .ref (q 0 0)), (1, .int a1), (2, .int a2), (3, .int a3)]) hx hb dX5_best_46 hl (by decide) rfl (fun ls hl => ?_)
          refine lv_aload hx hb dX5_best_48 (lv_at hl 0 rfl) ?_
          refine F5_fg6 hC hinX0 hK (hw.sub (sC1F hb15)) hE.nFX5_145 dX5_best_50 ?_
          obtain ⟨J17, hJ18, h⟩ := h
          have join19 : ∀  (H : Heap) (locs : List Loc) (ls : Array Slot), J17 () → Wd g.1 A s.heap ((wC g q) (C16, N)) H locs → lv_has ls 5 [(0, .ref (q 0 0))] → W p l e (rmm 23 698) s m args below meth c H locs 0 0 Q (F0 m 65 ls []) := by
            intro  H locs ls h hw hl
            replace h := hJ18 () h
            refine lv_aload_n hx hb dX5_best_65 rfl (lv_at hl 0 rfl) ?_
            refine lv_iconst (v := (3 : Int32)) hx hb dX5_best_66 (by decide) ?_
            refine mcalli (w1 := (wC g q)) (va_runV (As := [.int (3 : Int32)]) (rest := []) hC (kX5_finding l g aK aV q H.size C16 N (3 : Int32) _ h) (cwV 1 hts gX5_best_X5_finding rfl rfl rfl (by decide +kernel) ⟨Nat.le_of_ble_eq_true rfl, Nat.le_of_ble_eq_true rfl⟩) (mpreV (E5_ok aK aV) hK hE hA hw (Sub1.refl _) 0 rfl rfl) rfl rfl hl.1 rfl (lv_room (Nat.le_of_ble_eq_true rfl)) dX5_best_67 ⟨Nat.zero_le _, Nat.zero_le _⟩) hA hw (Sub1.refl _) (fun u9 => Sub.whole (wC_map u9.1 u9.2)) (fun r20 u21 H locs h hw => ?_)
            obtain ⟨C22, N23⟩ := u21
            obtain ⟨hu, h⟩ := h
            replace hu : N = N23 := hu.symm
            subst hu
            rw [hQ]
            exact mreti (w := (wC g q)) (u := (C22, N)) hC hr hlocks hK hw ⟨rfl, h⟩ dX5_best_70
          refine lv_if_eq (tgt := 65) hx hb dX5_best_53 (by decide) (fun c29 => ?_) (fun c29 => ?_)
          · replace h := h.1 c29
            exact join19  _ _ _ h hw (lv_sub hl [1] rfl)
          · replace h := h.2 c29
            refine lv_iload_n hx hb dX5_best_56 rfl (lv_at hl 4 rfl) ?_
            refine lv_aload hx hb dX5_best_57 (lv_at hl 0 rfl) ?_
            refine F5_fg5 hC hinX0 hK (hw.sub (sC1F hb15)) hE.nFX5_148 dX5_best_59 ?_
            refine lv_icmp_lt (tgt := 71) hx hb dX5_best_62 (by decide) (fun c28 => ?_) (fun c28 => ?_)
            · replace h := h.1 c28
              refine lv_iload_n hx hb dX5_best_71 rfl (lv_at hl 4 rfl) ?_
              refine lv_iconst (v := (-1 : Int32)) hx hb dX5_best_72 (by decide) ?_
              refine lv_icmp_ne (tgt := 84) hx hb dX5_best_73 (by decide) (fun c27 => ?_) (fun c27 => ?_)
              · replace h := h.2 c27
                refine lv_iload_n hx hb dX5_best_84 rfl (lv_at hl 4 rfl) ?_
                refine lv_bipush (v := (-2 : Int32)) hx hb dX5_best_85 (by decide) ?_
                refine lv_icmp_ne (tgt := 98) hx hb dX5_best_87 (by decide) (fun c24 => ?_) (fun c24 => ?_)
                · replace h := h.2 c24
                  refine lv_aload hx hb dX5_best_98 (lv_at hl 0 rfl) ?_
                  refine F5_fg8 hC hinX0 hK (hw.sub (sC1F hb15)) hE.nFX5_158 dX5_best_100 ?_
                  refine lv_iload_n hx hb dX5_best_103 rfl (lv_at hl 4 rfl) ?_
                  obtain ⟨hi, h⟩ := h
                  refine F5_fl8 hC hK (hw.sub (sC1F hb15)) hi dX5_best_104 ?_
                  rw [hQ]
                  exact mreti (w := (wC g q)) (u := (C16, N)) hC hr hlocks hK hw ⟨rfl, h⟩ dX5_best_105
                · replace h := h.1 c24
                  refine lv_aload hx hb dX5_best_90 (lv_at hl 0 rfl) ?_
                  refine F5_fg7 hC hinX0 hK (hw.sub (sC1F hb15)) hE.nFX5_155 dX5_best_92 ?_
                  refine lv_goto (tgt := 105) hx hb dX5_best_95 (by decide) ?_
                  rw [hQ]
                  exact mreti (w := (wC g q)) (u := (C16, N)) hC hr hlocks hK hw ⟨rfl, h⟩ dX5_best_105
              · replace h := h.1 c27
                refine lv_aload_n hx hb dX5_best_76 rfl (lv_at hl 1 rfl) ?_
                refine lv_iload_n hx hb dX5_best_77 rfl (lv_at hl 2 rfl) ?_
                refine lv_aload hx hb dX5_best_78 (lv_at hl 0 rfl) ?_
                refine mcalli (w1 := (wC g q)) (va_runV (As := [.int a1, .ref (q b14 0)]) (rest := []) hC (kX5_costOf l g aK aV q H.size C16 N a1 b14 _ h) (cwV 2 hts gX5_best_X5_costOf rfl rfl rfl (by decide +kernel) ⟨Nat.le_of_ble_eq_true rfl, Nat.le_of_ble_eq_true rfl⟩) (mpreV (E5_ok aK aV) hK hE hA hw (Sub1.refl _) 0 rfl rfl) rfl rfl hl.1 rfl (lv_room (Nat.le_of_ble_eq_true rfl)) dX5_best_80 ⟨Nat.zero_le _, Nat.zero_le _⟩) hA hw (Sub1.refl _) (fun u9 => Sub.whole (wC_map u9.1 u9.2)) (fun r25 u26 H locs h hw => ?_)
                obtain ⟨hu, h⟩ := h
                replace hu := hu.symm
                subst hu
                rw [hQ]
                exact mreti (w := (wC g q)) (u := (C16, N)) hC hr hlocks hK hw ⟨rfl, h⟩ dX5_best_83
            · replace h := h.2 c28
              exact join19  _ _ _ h hw (lv_sub hl [1] rfl)
        · replace h := h.2 c30
          exact join5  _ _ _ h hw (lv_sub hl [0] rfl)
def wX5_many (C : Nat → Bun) (N : Nat → Lon) (a1 : Int32) (a2 : Int32) (post : Int32 → (Nat → Bun) → Prop) : Prop :=
  wX1_hasTeam (C 1) a1 (fun r1 => wjoin (σ := Unit) (fun _ => wX5_finding C N (0 : Int32) (fun r6 C8 => post r6 C8)) (fun J3 => ((r1 = 0 → J3 ()) ∧ (¬ (r1 = 0) → wX1_hasField (C 1) a2 (fun r10 => ((r10 = 0 → J3 ()) ∧ (¬ (r10 = 0) → wX5_furrowsOf C N a1 a2 (fun b14 C16 => post (C16 b14 0 6) C16))))))))
set_option maxRecDepth 100000 in
set_option maxHeartbeats 4000000 in
theorem kX5_many (l : Launch) (g : Gl) (aK : Nat → Nat) (aV : Nat → Nat) (q : Nat → Nat → Nat) (sz : Nat) (C : Nat → Bun) (N : Nat → Lon) (a1 : Int32) (a2 : Int32) (post : Int32 → (Nat → Bun) → Prop) (h : wX5_many C N a1 a2 post) : Met l yX5_many wsX5_many (rmm 23 698) (wPc g (E5 aK aV) ((wC g q) (C, N)) sz [.ref (q 0 0), .int a1, .int a2]) (va_Qi (fun (r : Int32) (u : (Nat → Bun) × (Nat → Lon)) => u.2 = N ∧ post r u.1) (wB g (wC g q) (va_A ((wC g q) (C, N)) sz)) (va_A ((wC g q) (C, N)) sz)) 0 0 (va_A ((wC g q) (C, N)) sz) := by
  refine mstart (Qf := fun A => va_Qi (fun (r : Int32) (u : (Nat → Bun) × (Nat → Lon)) => u.2 = N ∧ post r u.1) (wB g (wC g q) A) A) (by decide) rfl (Nat.le_of_ble_eq_true rfl) ?_
  intro p e s m args below meth c A Q H locs ls hC hr hlocks hname hQ hA hK hE hw hl
  have hC : CallFix p m c cX5_many 3 s args wsX5_many RX5 := hC
  obtain ⟨hx, hb, -, hown, hts⟩ := id hC
  have hl : lv_has ls 3 [(0, .ref (q 0 0)), (1, .int a1), (2, .int a2)] := hl
  rw [wX5_many] at h
  have hinX0 : ∀ w ∈ wsX00, w ∈ wsX5_many := fun w hw9 => List.mem_cons_of_mem _ (List.mem_append_left _ (List.mem_append_right _ hw9))
  have hinX5 : ∀ w ∈ wsX50, w ∈ wsX5_many := fun w hw9 => List.mem_cons_of_mem _ (List.mem_append_left _ (List.mem_append_left _ (List.mem_append_right _ hw9)))
  refine lv_aload_n hx hb dX5_many_0 rfl (lv_at hl 0 rfl) ?_
  refine O5_g0 hC hinX5 hK (hw.sub sC1O) (List.mem_of_getElem? (i := 1) rfl) dX5_many_1 ?_
  refine lv_iload_n hx hb dX5_many_4 rfl (lv_at hl 1 rfl) ?_
  refine mcalli (w1 := (fun u9 : Bun => wC g q (va_up C 1 u9, N))) (va_runVN (C := RX1) (As := [.int a1]) (rest := []) hC (kX1_hasTeam l g aK aV (q 1) H.size (C 1) a1 _ h) ⟨va_cnB 1 hts gX5_many_X1_hasTeam_n116 rfl rfl rfl hE.nMX5_116 (hts (.initialized RX1) (List.mem_of_getElem? (i := 3) rfl)) (by decide +kernel) ⟨Nat.le_of_ble_eq_true rfl, Nat.le_of_ble_eq_true rfl⟩, (hts (.instanceMethod yX1_hasTeam) (List.mem_of_getElem? (i := 2) rfl)), (hts (.selects RX1 yX1_hasTeam yX1_hasTeam) (List.mem_of_getElem? (i := 4) rfl))⟩ (mpreV (E5_ok aK aV) hK hE hA hw (sC1P isP1) 0 rfl rfl) rfl rfl hl.1 rfl (lv_room (Nat.le_of_ble_eq_true rfl)) dX5_many_5 ⟨Nat.zero_le _, Nat.zero_le _⟩) hA hw (sC1P isP1) (fun u9 => sCP isP1 u9) (fun r1 u2 H locs h hw => ?_)
  obtain ⟨hu, h⟩ := h
  replace hu := hu.symm
  subst hu
  replace hw : Wd g.1 A s.heap ((wC g q) (C, N)) H locs := by first | exact hw | (simpa only [up_self] using hw)
  obtain ⟨J3, hJ4, h⟩ := h
  have join5 : ∀  (H : Heap) (locs : List Loc) (ls : Array Slot), J3 () → Wd g.1 A s.heap ((wC g q) (C, N)) H locs → lv_has ls 3 [(0, .ref (q 0 0))] → W p l e (rmm 23 698) s m args below meth c H locs 0 0 Q (F0 m 22 ls []) := by
    intro  H locs ls h hw hl
    replace h := hJ4 () h
    refine lv_aload_n hx hb dX5_many_22 rfl (lv_at hl 0 rfl) ?_
    refine lv_iconst (v := (0 : Int32)) hx hb dX5_many_23 (by decide) ?_
    refine mcalli (w1 := (wC g q)) (va_runV (As := [.int (0 : Int32)]) (rest := []) hC (kX5_finding l g aK aV q H.size C N (0 : Int32) _ h) (cwV 1 hts gX5_many_X5_finding rfl rfl rfl (by decide +kernel) ⟨Nat.le_of_ble_eq_true rfl, Nat.le_of_ble_eq_true rfl⟩) (mpreV (E5_ok aK aV) hK hE hA hw (Sub1.refl _) 0 rfl rfl) rfl rfl hl.1 rfl (lv_room (Nat.le_of_ble_eq_true rfl)) dX5_many_24 ⟨Nat.zero_le _, Nat.zero_le _⟩) hA hw (Sub1.refl _) (fun u9 => Sub.whole (wC_map u9.1 u9.2)) (fun r6 u7 H locs h hw => ?_)
    obtain ⟨C8, N9⟩ := u7
    obtain ⟨hu, h⟩ := h
    replace hu : N = N9 := hu.symm
    subst hu
    rw [hQ]
    exact mreti (w := (wC g q)) (u := (C8, N)) hC hr hlocks hK hw ⟨rfl, h⟩ dX5_many_27
  refine lv_if_eq (tgt := 22) hx hb dX5_many_8 (by decide) (fun c18 => ?_) (fun c18 => ?_)
  · replace h := h.1 c18
    exact join5  _ _ _ h hw (lv_sub hl [0] rfl)
  · replace h := h.2 c18
    refine lv_aload_n hx hb dX5_many_11 rfl (lv_at hl 0 rfl) ?_
    refine O5_g0 hC hinX5 hK (hw.sub sC1O) (List.mem_of_getElem? (i := 1) rfl) dX5_many_12 ?_
    refine lv_iload_n hx hb dX5_many_15 rfl (lv_at hl 2 rfl) ?_
    refine mcalli (w1 := (fun u9 : Bun => wC g q (va_up C 1 u9, N))) (va_runVN (C := RX1) (As := [.int a2]) (rest := []) hC (kX1_hasField l g aK aV (q 1) H.size (C 1) a2 _ h) ⟨va_cnB 1 hts gX5_many_X1_hasField_n73 rfl rfl rfl hE.nMX5_73 (hts (.initialized RX1) (List.mem_of_getElem? (i := 3) rfl)) (by decide +kernel) ⟨Nat.le_of_ble_eq_true rfl, Nat.le_of_ble_eq_true rfl⟩, (hts (.instanceMethod yX1_hasField) (List.mem_of_getElem? (i := 7) rfl)), (hts (.selects RX1 yX1_hasField yX1_hasField) (List.mem_of_getElem? (i := 8) rfl))⟩ (mpreV (E5_ok aK aV) hK hE hA hw (sC1P isP1) 0 rfl rfl) rfl rfl hl.1 rfl (lv_room (Nat.le_of_ble_eq_true rfl)) dX5_many_16 ⟨Nat.zero_le _, Nat.zero_le _⟩) hA hw (sC1P isP1) (fun u9 => sCP isP1 u9) (fun r10 u11 H locs h hw => ?_)
    obtain ⟨hu, h⟩ := h
    replace hu := hu.symm
    subst hu
    replace hw : Wd g.1 A s.heap ((wC g q) (C, N)) H locs := by first | exact hw | (simpa only [up_self] using hw)
    refine lv_if_ne (tgt := 28) hx hb dX5_many_19 (by decide) (fun c17 => ?_) (fun c17 => ?_)
    · replace h := h.2 c17
      refine lv_aload_n hx hb dX5_many_28 rfl (lv_at hl 0 rfl) ?_
      refine lv_iload_n hx hb dX5_many_29 rfl (lv_at hl 1 rfl) ?_
      refine lv_iload_n hx hb dX5_many_30 rfl (lv_at hl 2 rfl) ?_
      refine mcallr (va_runV (As := [.int a1, .int a2]) (rest := []) hC (kX5_furrowsOf l g aK aV q H.size C N a1 a2 _ h) (cwV 2 hts gX5_many_X5_furrowsOf rfl rfl rfl (by decide +kernel) ⟨Nat.le_of_ble_eq_true rfl, Nat.le_of_ble_eq_true rfl⟩) (mpreV (E5_ok aK aV) hK hE hA hw (Sub1.refl _) 0 rfl rfl) rfl rfl hl.1 rfl (lv_room (Nat.le_of_ble_eq_true rfl)) dX5_many_31 ⟨Nat.zero_le _, Nat.zero_le _⟩) hA hw (fun b14 C16 H locs hb15 h hw => ?_)
      refine F5_fg6 hC hinX0 hK (hw.sub (sC1F hb15)) hE.nFX5_145 dX5_many_34 ?_
      rw [hQ]
      exact mreti (w := (wC g q)) (u := (C16, N)) hC hr hlocks hK hw ⟨rfl, h⟩ dX5_many_37
    · replace h := h.1 c17
      exact join5  _ _ _ h hw (lv_sub hl [0] rfl)
def wX5_barred (C : Nat → Bun) (N : Nat → Lon) (a1 : Int32) (post : Int32 → (Nat → Bun) → Prop) : Prop :=
  wX1_hasField (C 1) a1 (fun r1 => ((r1 = 0 → wX5_finding C N (0 : Int32) (fun r11 C13 => post r11 C13)) ∧ (¬ (r1 = 0) → wX1_earth (C 1) a1 (fun r3 => wX1_mark (C 1) a1 (2 : Int32) (fun r5 => wX1_mark (C 1) a1 (3 : Int32) (fun r7 => wX5_barOf r3 r5 r7 (fun r9 => post r9 C)))))))
set_option maxRecDepth 100000 in
set_option maxHeartbeats 4000000 in
theorem kX5_barred (l : Launch) (g : Gl) (aK : Nat → Nat) (aV : Nat → Nat) (q : Nat → Nat → Nat) (sz : Nat) (C : Nat → Bun) (N : Nat → Lon) (a1 : Int32) (post : Int32 → (Nat → Bun) → Prop) (h : wX5_barred C N a1 post) : Met l yX5_barred wsX5_barred (rmm 3 67) (wPc g (E5 aK aV) ((wC g q) (C, N)) sz [.ref (q 0 0), .int a1]) (va_Qi (fun (r : Int32) (u : (Nat → Bun) × (Nat → Lon)) => u.2 = N ∧ post r u.1) (wB g (wC g q) (va_A ((wC g q) (C, N)) sz)) (va_A ((wC g q) (C, N)) sz)) 0 0 (va_A ((wC g q) (C, N)) sz) := by
  refine mstart (Qf := fun A => va_Qi (fun (r : Int32) (u : (Nat → Bun) × (Nat → Lon)) => u.2 = N ∧ post r u.1) (wB g (wC g q) A) A) (by decide) rfl (Nat.le_of_ble_eq_true rfl) ?_
  intro p e s m args below meth c A Q H locs ls hC hr hlocks hname hQ hA hK hE hw hl
  have hC : CallFix p m c cX5_barred 2 s args wsX5_barred RX5 := hC
  obtain ⟨hx, hb, -, hown, hts⟩ := id hC
  have hl : lv_has ls 2 [(0, .ref (q 0 0)), (1, .int a1)] := hl
  rw [wX5_barred] at h
  have hinX5 : ∀ w ∈ wsX50, w ∈ wsX5_barred := fun w hw9 => List.mem_cons_of_mem _ (List.mem_append_left _ (List.mem_append_right _ hw9))
  refine lv_aload_n hx hb dX5_barred_0 rfl (lv_at hl 0 rfl) ?_
  refine O5_g0 hC hinX5 hK (hw.sub sC1O) (List.mem_of_getElem? (i := 1) rfl) dX5_barred_1 ?_
  refine lv_iload_n hx hb dX5_barred_4 rfl (lv_at hl 1 rfl) ?_
  refine mcalli (w1 := (fun u9 : Bun => wC g q (va_up C 1 u9, N))) (va_runVN (C := RX1) (As := [.int a1]) (rest := []) hC (kX1_hasField l g aK aV (q 1) H.size (C 1) a1 _ h) ⟨va_cnB 1 hts gX5_barred_X1_hasField_n73 rfl rfl rfl hE.nMX5_73 (hts (.initialized RX1) (List.mem_of_getElem? (i := 3) rfl)) (by decide +kernel) ⟨Nat.le_of_ble_eq_true rfl, Nat.le_of_ble_eq_true rfl⟩, (hts (.instanceMethod yX1_hasField) (List.mem_of_getElem? (i := 2) rfl)), (hts (.selects RX1 yX1_hasField yX1_hasField) (List.mem_of_getElem? (i := 4) rfl))⟩ (mpreV (E5_ok aK aV) hK hE hA hw (sC1P isP1) 0 rfl rfl) rfl rfl hl.1 rfl (lv_room (Nat.le_of_ble_eq_true rfl)) dX5_barred_5 ⟨Nat.zero_le _, Nat.zero_le _⟩) hA hw (sC1P isP1) (fun u9 => sCP isP1 u9) (fun r1 u2 H locs h hw => ?_)
  obtain ⟨hu, h⟩ := h
  replace hu := hu.symm
  subst hu
  replace hw : Wd g.1 A s.heap ((wC g q) (C, N)) H locs := by first | exact hw | (simpa only [up_self] using hw)
  refine lv_if_ne (tgt := 17) hx hb dX5_barred_8 (by decide) (fun c15 => ?_) (fun c15 => ?_)
  · replace h := h.2 c15
    refine lv_aload_n hx hb dX5_barred_17 rfl (lv_at hl 0 rfl) ?_
    refine O5_g0 hC hinX5 hK (hw.sub sC1O) (List.mem_of_getElem? (i := 1) rfl) dX5_barred_18 ?_
    refine lv_iload_n hx hb dX5_barred_21 rfl (lv_at hl 1 rfl) ?_
    refine mcalli (w1 := (fun u9 : Bun => wC g q (va_up C 1 u9, N))) (va_runVN (C := RX1) (As := [.int a1]) (rest := []) hC (kX1_earth l g aK aV (q 1) H.size (C 1) a1 _ h) ⟨va_cnB 1 hts gX5_barred_X1_earth_n77 rfl rfl rfl hE.nMX5_77 (hts (.initialized RX1) (List.mem_of_getElem? (i := 3) rfl)) (by decide +kernel) ⟨Nat.le_of_ble_eq_true rfl, Nat.le_of_ble_eq_true rfl⟩, (hts (.instanceMethod yX1_earth) (List.mem_of_getElem? (i := 14) rfl)), (hts (.selects RX1 yX1_earth yX1_earth) (List.mem_of_getElem? (i := 15) rfl))⟩ (mpreV (E5_ok aK aV) hK hE hA hw (sC1P isP1) 0 rfl rfl) rfl rfl hl.1 rfl (lv_room (Nat.le_of_ble_eq_true rfl)) dX5_barred_22 ⟨Nat.zero_le _, Nat.zero_le _⟩) hA hw (sC1P isP1) (fun u9 => sCP isP1 u9) (fun r3 u4 H locs h hw => ?_)
    obtain ⟨hu, h⟩ := h
    replace hu := hu.symm
    subst hu
    replace hw : Wd g.1 A s.heap ((wC g q) (C, N)) H locs := by first | exact hw | (simpa only [up_self] using hw)
    refine lv_aload_n hx hb dX5_barred_25 rfl (lv_at hl 0 rfl) ?_
    refine O5_g0 hC hinX5 hK (hw.sub sC1O) (List.mem_of_getElem? (i := 1) rfl) dX5_barred_26 ?_
    refine lv_iload_n hx hb dX5_barred_29 rfl (lv_at hl 1 rfl) ?_
    refine lv_iconst (v := (2 : Int32)) hx hb dX5_barred_30 (by decide) ?_
    refine mcalli (w1 := (fun u9 : Bun => wC g q (va_up C 1 u9, N))) (va_runVN (C := RX1) (As := [.int a1, .int (2 : Int32)]) (rest := [.int r3]) hC (kX1_mark l g aK aV (q 1) H.size (C 1) a1 (2 : Int32) _ h) ⟨va_cnB 2 hts gX5_barred_X1_mark_n83 rfl rfl rfl hE.nMX5_83 (hts (.initialized RX1) (List.mem_of_getElem? (i := 3) rfl)) (by decide +kernel) ⟨Nat.le_of_ble_eq_true rfl, Nat.le_of_ble_eq_true rfl⟩, (hts (.instanceMethod yX1_mark) (List.mem_of_getElem? (i := 19) rfl)), (hts (.selects RX1 yX1_mark yX1_mark) (List.mem_of_getElem? (i := 20) rfl))⟩ (mpreV (E5_ok aK aV) hK hE hA hw (sC1P isP1) 0 rfl rfl) rfl rfl hl.1 rfl (lv_room (Nat.le_of_ble_eq_true rfl)) dX5_barred_31 ⟨Nat.zero_le _, Nat.zero_le _⟩) hA hw (sC1P isP1) (fun u9 => sCP isP1 u9) (fun r5 u6 H locs h hw => ?_)
    obtain ⟨hu, h⟩ := h
    replace hu := hu.symm
    subst hu
    replace hw : Wd g.1 A s.heap ((wC g q) (C, N)) H locs := by first | exact hw | (simpa only [up_self] using hw)
    refine lv_aload_n hx hb dX5_barred_34 rfl (lv_at hl 0 rfl) ?_
    refine O5_g0 hC hinX5 hK (hw.sub sC1O) (List.mem_of_getElem? (i := 1) rfl) dX5_barred_35 ?_
    refine lv_iload_n hx hb dX5_barred_38 rfl (lv_at hl 1 rfl) ?_
    refine lv_iconst (v := (3 : Int32)) hx hb dX5_barred_39 (by decide) ?_
    refine mcalli (w1 := (fun u9 : Bun => wC g q (va_up C 1 u9, N))) (va_runVN (C := RX1) (As := [.int a1, .int (3 : Int32)]) (rest := [.int r5, .int r3]) hC (kX1_mark l g aK aV (q 1) H.size (C 1) a1 (3 : Int32) _ h) ⟨va_cnB 2 hts gX5_barred_X1_mark_n83 rfl rfl rfl hE.nMX5_83 (hts (.initialized RX1) (List.mem_of_getElem? (i := 3) rfl)) (by decide +kernel) ⟨Nat.le_of_ble_eq_true rfl, Nat.le_of_ble_eq_true rfl⟩, (hts (.instanceMethod yX1_mark) (List.mem_of_getElem? (i := 19) rfl)), (hts (.selects RX1 yX1_mark yX1_mark) (List.mem_of_getElem? (i := 20) rfl))⟩ (mpreV (E5_ok aK aV) hK hE hA hw (sC1P isP1) 0 rfl rfl) rfl rfl hl.1 rfl (lv_room (Nat.le_of_ble_eq_true rfl)) dX5_barred_40 ⟨Nat.zero_le _, Nat.zero_le _⟩) hA hw (sC1P isP1) (fun u9 => sCP isP1 u9) (fun r7 u8 H locs h hw => ?_)
    obtain ⟨hu, h⟩ := h
    replace hu := hu.symm
    subst hu
    replace hw : Wd g.1 A s.heap ((wC g q) (C, N)) H locs := by first | exact hw | (simpa only [up_self] using hw)
    refine mcalli (w1 := (fun _ => (wC g q) (C, N))) (wc := fun _ : Unit => ([] : va_W)) (u := ()) (va_runS (As := [.int r3, .int r5, .int r7]) (rest := []) hC (kX5_barOf l g aK aV H.size r3 r5 r7 _ h) (va_cwS 3 hts gX5_barred_X5_barOf rfl rfl rfl (by decide +kernel) ⟨Nat.le_of_ble_eq_true rfl, Nat.le_of_ble_eq_true rfl⟩) (mpre (E5_ok aK aV) hK hE hA hw (Sub1.nil _)) rfl rfl hl.1 rfl (lv_room (Nat.le_of_ble_eq_true rfl)) dX5_barred_43 ⟨Nat.zero_le _, Nat.zero_le _⟩) hA hw (Sub1.nil _) (fun _ => Sub.nil _) (fun r9 u10 H locs h hw => ?_)
    obtain ⟨_, h⟩ := h
    rw [hQ]
    exact mreti (w := (wC g q)) (u := (C, N)) hC hr hlocks hK hw ⟨rfl, h⟩ dX5_barred_46
  · replace h := h.1 c15
    refine lv_aload_n hx hb dX5_barred_11 rfl (lv_at hl 0 rfl) ?_
    refine lv_iconst (v := (0 : Int32)) hx hb dX5_barred_12 (by decide) ?_
    refine mcalli (w1 := (wC g q)) (va_runV (As := [.int (0 : Int32)]) (rest := []) hC (kX5_finding l g aK aV q H.size C N (0 : Int32) _ h) (cwV 1 hts gX5_barred_X5_finding rfl rfl rfl (by decide +kernel) ⟨Nat.le_of_ble_eq_true rfl, Nat.le_of_ble_eq_true rfl⟩) (mpreV (E5_ok aK aV) hK hE hA hw (Sub1.refl _) 0 rfl rfl) rfl rfl hl.1 rfl (lv_room (Nat.le_of_ble_eq_true rfl)) dX5_barred_13 ⟨Nat.zero_le _, Nat.zero_le _⟩) hA hw (Sub1.refl _) (fun u9 => Sub.whole (wC_map u9.1 u9.2)) (fun r11 u12 H locs h hw => ?_)
    obtain ⟨C13, N14⟩ := u12
    obtain ⟨hu, h⟩ := h
    replace hu : N = N14 := hu.symm
    subst hu
    rw [hQ]
    exact mreti (w := (wC g q)) (u := (C13, N)) hC hr hlocks hK hw ⟨rfl, h⟩ dX5_barred_16
def wX5_missed (C : Nat → Bun) (N : Nat → Lon) (a1 : Int32) (a2 : Int32) (post : Int32 → (Nat → Bun) → Prop) : Prop :=
  wX1_hasTeam (C 1) a1 (fun r1 => wjoin (σ := Unit) (fun _ => wX5_finding C N (0 : Int32) (fun r6 C8 => post r6 C8)) (fun J3 => ((r1 = 0 → J3 ()) ∧ (¬ (r1 = 0) → wX1_hasField (C 1) a2 (fun r10 => ((r10 = 0 → J3 ()) ∧ (¬ (r10 = 0) → wX5_furrowsOf C N a1 a2 (fun b14 C16 => wX0_longest (C16 b14)  (fun r17 S20 => ∀ C19 : Nat → Bun, C19 = va_up C16 b14 S20 → ((r17 = 0 → wX5_finding C19 N (3 : Int32) (fun r21 C23 => post r21 C23)) ∧ (¬ (r17 = 0) → post ((C19 b14 0 5) - r17) C19)))))))))))
set_option maxRecDepth 100000 in
set_option maxHeartbeats 4000000 in
theorem kX5_missed (l : Launch) (g : Gl) (aK : Nat → Nat) (aV : Nat → Nat) (q : Nat → Nat → Nat) (sz : Nat) (C : Nat → Bun) (N : Nat → Lon) (a1 : Int32) (a2 : Int32) (post : Int32 → (Nat → Bun) → Prop) (h : wX5_missed C N a1 a2 post) : Met l yX5_missed wsX5_missed (rmm 23 698) (wPc g (E5 aK aV) ((wC g q) (C, N)) sz [.ref (q 0 0), .int a1, .int a2]) (va_Qi (fun (r : Int32) (u : (Nat → Bun) × (Nat → Lon)) => u.2 = N ∧ post r u.1) (wB g (wC g q) (va_A ((wC g q) (C, N)) sz)) (va_A ((wC g q) (C, N)) sz)) 0 0 (va_A ((wC g q) (C, N)) sz) := by
  refine mstart (Qf := fun A => va_Qi (fun (r : Int32) (u : (Nat → Bun) × (Nat → Lon)) => u.2 = N ∧ post r u.1) (wB g (wC g q) A) A) (by decide) rfl (Nat.le_of_ble_eq_true rfl) ?_
  intro p e s m args below meth c A Q H locs ls hC hr hlocks hname hQ hA hK hE hw hl
  have hC : CallFix p m c cX5_missed 5 s args wsX5_missed RX5 := hC
  obtain ⟨hx, hb, -, hown, hts⟩ := id hC
  have hl : lv_has ls 5 [(0, .ref (q 0 0)), (1, .int a1), (2, .int a2)] := hl
  rw [wX5_missed] at h
  have hinX0 : ∀ w ∈ wsX00, w ∈ wsX5_missed := fun w hw9 => List.mem_cons_of_mem _ (List.mem_append_left _ (List.mem_append_right _ hw9))
  have hinX5 : ∀ w ∈ wsX50, w ∈ wsX5_missed := fun w hw9 => List.mem_cons_of_mem _ (List.mem_append_left _ (List.mem_append_left _ (List.mem_append_right _ hw9)))
  refine lv_aload_n hx hb dX5_missed_0 rfl (lv_at hl 0 rfl) ?_
  refine O5_g0 hC hinX5 hK (hw.sub sC1O) (List.mem_of_getElem? (i := 1) rfl) dX5_missed_1 ?_
  refine lv_iload_n hx hb dX5_missed_4 rfl (lv_at hl 1 rfl) ?_
  refine mcalli (w1 := (fun u9 : Bun => wC g q (va_up C 1 u9, N))) (va_runVN (C := RX1) (As := [.int a1]) (rest := []) hC (kX1_hasTeam l g aK aV (q 1) H.size (C 1) a1 _ h) ⟨va_cnB 1 hts gX5_missed_X1_hasTeam_n116 rfl rfl rfl hE.nMX5_116 (hts (.initialized RX1) (List.mem_of_getElem? (i := 3) rfl)) (by decide +kernel) ⟨Nat.le_of_ble_eq_true rfl, Nat.le_of_ble_eq_true rfl⟩, (hts (.instanceMethod yX1_hasTeam) (List.mem_of_getElem? (i := 2) rfl)), (hts (.selects RX1 yX1_hasTeam yX1_hasTeam) (List.mem_of_getElem? (i := 4) rfl))⟩ (mpreV (E5_ok aK aV) hK hE hA hw (sC1P isP1) 0 rfl rfl) rfl rfl hl.1 rfl (lv_room (Nat.le_of_ble_eq_true rfl)) dX5_missed_5 ⟨Nat.zero_le _, Nat.zero_le _⟩) hA hw (sC1P isP1) (fun u9 => sCP isP1 u9) (fun r1 u2 H locs h hw => ?_)
  obtain ⟨hu, h⟩ := h
  replace hu := hu.symm
  subst hu
  replace hw : Wd g.1 A s.heap ((wC g q) (C, N)) H locs := by first | exact hw | (simpa only [up_self] using hw)
  obtain ⟨J3, hJ4, h⟩ := h
  have join5 : ∀  (H : Heap) (locs : List Loc) (ls : Array Slot), J3 () → Wd g.1 A s.heap ((wC g q) (C, N)) H locs → lv_has ls 5 [(0, .ref (q 0 0))] → W p l e (rmm 23 698) s m args below meth c H locs 0 0 Q (F0 m 22 ls []) := by
    intro  H locs ls h hw hl
    replace h := hJ4 () h
    refine lv_aload_n hx hb dX5_missed_22 rfl (lv_at hl 0 rfl) ?_
    refine lv_iconst (v := (0 : Int32)) hx hb dX5_missed_23 (by decide) ?_
    refine mcalli (w1 := (wC g q)) (va_runV (As := [.int (0 : Int32)]) (rest := []) hC (kX5_finding l g aK aV q H.size C N (0 : Int32) _ h) (cwV 1 hts gX5_missed_X5_finding rfl rfl rfl (by decide +kernel) ⟨Nat.le_of_ble_eq_true rfl, Nat.le_of_ble_eq_true rfl⟩) (mpreV (E5_ok aK aV) hK hE hA hw (Sub1.refl _) 0 rfl rfl) rfl rfl hl.1 rfl (lv_room (Nat.le_of_ble_eq_true rfl)) dX5_missed_24 ⟨Nat.zero_le _, Nat.zero_le _⟩) hA hw (Sub1.refl _) (fun u9 => Sub.whole (wC_map u9.1 u9.2)) (fun r6 u7 H locs h hw => ?_)
    obtain ⟨C8, N9⟩ := u7
    obtain ⟨hu, h⟩ := h
    replace hu : N = N9 := hu.symm
    subst hu
    rw [hQ]
    exact mreti (w := (wC g q)) (u := (C8, N)) hC hr hlocks hK hw ⟨rfl, h⟩ dX5_missed_27
  refine lv_if_eq (tgt := 22) hx hb dX5_missed_8 (by decide) (fun c27 => ?_) (fun c27 => ?_)
  · replace h := h.1 c27
    exact join5  _ _ _ h hw (lv_sub hl [0] rfl)
  · replace h := h.2 c27
    refine lv_aload_n hx hb dX5_missed_11 rfl (lv_at hl 0 rfl) ?_
    refine O5_g0 hC hinX5 hK (hw.sub sC1O) (List.mem_of_getElem? (i := 1) rfl) dX5_missed_12 ?_
    refine lv_iload_n hx hb dX5_missed_15 rfl (lv_at hl 2 rfl) ?_
    refine mcalli (w1 := (fun u9 : Bun => wC g q (va_up C 1 u9, N))) (va_runVN (C := RX1) (As := [.int a2]) (rest := []) hC (kX1_hasField l g aK aV (q 1) H.size (C 1) a2 _ h) ⟨va_cnB 1 hts gX5_missed_X1_hasField_n73 rfl rfl rfl hE.nMX5_73 (hts (.initialized RX1) (List.mem_of_getElem? (i := 3) rfl)) (by decide +kernel) ⟨Nat.le_of_ble_eq_true rfl, Nat.le_of_ble_eq_true rfl⟩, (hts (.instanceMethod yX1_hasField) (List.mem_of_getElem? (i := 7) rfl)), (hts (.selects RX1 yX1_hasField yX1_hasField) (List.mem_of_getElem? (i := 8) rfl))⟩ (mpreV (E5_ok aK aV) hK hE hA hw (sC1P isP1) 0 rfl rfl) rfl rfl hl.1 rfl (lv_room (Nat.le_of_ble_eq_true rfl)) dX5_missed_16 ⟨Nat.zero_le _, Nat.zero_le _⟩) hA hw (sC1P isP1) (fun u9 => sCP isP1 u9) (fun r10 u11 H locs h hw => ?_)
    obtain ⟨hu, h⟩ := h
    replace hu := hu.symm
    subst hu
    replace hw : Wd g.1 A s.heap ((wC g q) (C, N)) H locs := by first | exact hw | (simpa only [up_self] using hw)
    refine lv_if_ne (tgt := 28) hx hb dX5_missed_19 (by decide) (fun c26 => ?_) (fun c26 => ?_)
    · replace h := h.2 c26
      refine lv_aload_n hx hb dX5_missed_28 rfl (lv_at hl 0 rfl) ?_
      refine lv_iload_n hx hb dX5_missed_29 rfl (lv_at hl 1 rfl) ?_
      refine lv_iload_n hx hb dX5_missed_30 rfl (lv_at hl 2 rfl) ?_
      refine mcallr (va_runV (As := [.int a1, .int a2]) (rest := []) hC (kX5_furrowsOf l g aK aV q H.size C N a1 a2 _ h) (cwV 2 hts gX5_missed_X5_furrowsOf rfl rfl rfl (by decide +kernel) ⟨Nat.le_of_ble_eq_true rfl, Nat.le_of_ble_eq_true rfl⟩) (mpreV (E5_ok aK aV) hK hE hA hw (Sub1.refl _) 0 rfl rfl) rfl rfl hl.1 rfl (lv_room (Nat.le_of_ble_eq_true rfl)) dX5_missed_31 ⟨Nat.zero_le _, Nat.zero_le _⟩) hA hw (fun b14 C16 H locs hb15 h hw => ?_)
      refine lv_astore_n (lv' := [(3, .ref (q b14 0)), (0, .ref (q 0 0)), (1, .int a1), (2, .int a2)]) hx hb dX5_missed_34 rfl hl (by decide) rfl (fun ls hl => ?_)
      refine lv_aload_n hx hb dX5_missed_35 rfl (lv_at hl 0 rfl) ?_
      refine mcalli (w1 := (fun u9 : Bun => wC g q (va_up C16 b14 u9, N))) (va_runVN (C := RX0) (As := []) (rest := []) hC (kX0_longest l g aK aV (q b14) H.size (C16 b14)  _ h) ⟨va_cnB 0 hts gX5_missed_X0_longest_n165 rfl rfl rfl hE.nMX5_165 (hts (.initialized RX0) (List.mem_of_getElem? (i := 33) rfl)) (by decide +kernel) ⟨Nat.le_of_ble_eq_true rfl, Nat.le_of_ble_eq_true rfl⟩, (hts (.instanceMethod yX0_longest) (List.mem_of_getElem? (i := 118) rfl)), (hts (.selects RX0 yX0_longest yX0_longest) (List.mem_of_getElem? (i := 119) rfl))⟩ (mpreV (E5_ok aK aV) hK hE hA hw (sC1F hb15) 0 rfl rfl) rfl rfl hl.1 rfl (lv_room (Nat.le_of_ble_eq_true rfl)) dX5_missed_36 ⟨Nat.zero_le _, Nat.zero_le _⟩) hA hw (sC1F hb15) (fun u9 => sCF hb15 u9) (fun r17 u18 H locs h hw => ?_)
      obtain ⟨S20, rfl⟩ : ∃ z, z = u18 := ⟨_, rfl⟩
      obtain ⟨C19, eC19⟩ : ∃ z, z = va_up C16 b14 S20 := ⟨_, rfl⟩
      replace h := h C19 eC19
      replace hw : Wd g.1 A s.heap ((wC g q) (C19, N)) H locs := by rw [eC19]; exact hw
      refine lv_istore (lv' := [(4, .int r17), (3, .ref (q b14 0)), (0, .ref (q 0 0)), (1, .int a1), (2, .int a2)]) hx hb dX5_missed_39 hl (by decide) rfl (fun ls hl => ?_)
      refine lv_iload hx hb dX5_missed_41 (lv_at hl 0 rfl) ?_
      refine lv_if_ne (tgt := 54) hx hb dX5_missed_43 (by decide) (fun c25 => ?_) (fun c25 => ?_)
      · replace h := h.2 c25
        refine lv_aload_n hx hb dX5_missed_54 rfl (lv_at hl 1 rfl) ?_
        refine F5_fg5 hC hinX0 hK (hw.sub (sC1F hb15)) hE.nFX5_148 dX5_missed_55 ?_
        refine lv_iload hx hb dX5_missed_58 (lv_at hl 0 rfl) ?_
        refine lv_isub hx hb dX5_missed_60 ?_
        rw [hQ]
        exact mreti (w := (wC g q)) (u := (C19, N)) hC hr hlocks hK hw ⟨rfl, h⟩ dX5_missed_61
      · replace h := h.1 c25
        refine lv_aload_n hx hb dX5_missed_46 rfl (lv_at hl 2 rfl) ?_
        refine lv_iconst (v := (3 : Int32)) hx hb dX5_missed_47 (by decide) ?_
        refine mcalli (w1 := (wC g q)) (va_runV (As := [.int (3 : Int32)]) (rest := []) hC (kX5_finding l g aK aV q H.size C19 N (3 : Int32) _ h) (cwV 1 hts gX5_missed_X5_finding rfl rfl rfl (by decide +kernel) ⟨Nat.le_of_ble_eq_true rfl, Nat.le_of_ble_eq_true rfl⟩) (mpreV (E5_ok aK aV) hK hE hA hw (Sub1.refl _) 0 rfl rfl) rfl rfl hl.1 rfl (lv_room (Nat.le_of_ble_eq_true rfl)) dX5_missed_48 ⟨Nat.zero_le _, Nat.zero_le _⟩) hA hw (Sub1.refl _) (fun u9 => Sub.whole (wC_map u9.1 u9.2)) (fun r21 u22 H locs h hw => ?_)
        obtain ⟨C23, N24⟩ := u22
        obtain ⟨hu, h⟩ := h
        replace hu : N = N24 := hu.symm
        subst hu
        refine lv_goto (tgt := 61) hx hb dX5_missed_51 (by decide) ?_
        rw [hQ]
        exact mreti (w := (wC g q)) (u := (C23, N)) hC hr hlocks hK hw ⟨rfl, h⟩ dX5_missed_61
    · replace h := h.1 c26
      exact join5  _ _ _ h hw (lv_sub hl [0] rfl)
def wX5_costWithout (C : Nat → Bun) (N : Nat → Lon) (a1 : Int32) (a2 : Int32) (a3 : Int32) (post : Int32 → (Nat → Bun) → Prop) : Prop :=
  wX1_mark (C 1) a2 (1 : Int32) (fun r1 => wX1_mark (C 1) a2 (0 : Int32) (fun r3 => ∀ x5 : Int32, x5 = r3 &&& (((1 : Int32) <<< (a3 &&& 31)) ^^^ (-1 : Int32)) → ∀ x6 : Int32, x6 = (65535 : Int32) &&& ((x5 ||| r1) ^^^ (-1 : Int32)) → vp_in a1 6 ∧ wX1_mark (C 1) a2 (2 : Int32) (fun r7 => wX1_mark (C 1) a2 (3 : Int32) (fun r9 => wX0_ask (C 6) (C 1 5 a1.toNatClampNeg) x6 r1 r7 r9 (fun S14 => ∀ C13 : Nat → Bun, C13 = va_up C 6 S14 → wX5_costOf C13 N a1 6 (fun r15 => post r15 C13))))))
set_option maxRecDepth 100000 in
set_option maxHeartbeats 4000000 in
theorem kX5_costWithout (l : Launch) (g : Gl) (aK : Nat → Nat) (aV : Nat → Nat) (q : Nat → Nat → Nat) (sz : Nat) (C : Nat → Bun) (N : Nat → Lon) (a1 : Int32) (a2 : Int32) (a3 : Int32) (post : Int32 → (Nat → Bun) → Prop) (h : wX5_costWithout C N a1 a2 a3 post) : Met l yX5_costWithout wsX5_costWithout (rmm 22 674) (wPc g (E5 aK aV) ((wC g q) (C, N)) sz [.ref (q 0 0), .int a1, .int a2, .int a3]) (va_Qi (fun (r : Int32) (u : (Nat → Bun) × (Nat → Lon)) => u.2 = N ∧ post r u.1) (wB g (wC g q) (va_A ((wC g q) (C, N)) sz)) (va_A ((wC g q) (C, N)) sz)) 0 0 (va_A ((wC g q) (C, N)) sz) := by
  refine mstart (Qf := fun A => va_Qi (fun (r : Int32) (u : (Nat → Bun) × (Nat → Lon)) => u.2 = N ∧ post r u.1) (wB g (wC g q) A) A) (by decide) rfl (Nat.le_of_ble_eq_true rfl) ?_
  intro p e s m args below meth c A Q H locs ls hC hr hlocks hname hQ hA hK hE hw hl
  have hC : CallFix p m c cX5_costWithout 7 s args wsX5_costWithout RX5 := hC
  obtain ⟨hx, hb, -, hown, hts⟩ := id hC
  have hl : lv_has ls 7 [(0, .ref (q 0 0)), (1, .int a1), (2, .int a2), (3, .int a3)] := hl
  rw [wX5_costWithout] at h
  have hinX1 : ∀ w ∈ wsX10, w ∈ wsX5_costWithout := fun w hw9 => List.mem_cons_of_mem _ (List.mem_append_left _ (List.mem_append_right _ hw9))
  have hinX5 : ∀ w ∈ wsX50, w ∈ wsX5_costWithout := fun w hw9 => List.mem_cons_of_mem _ (List.mem_append_left _ (List.mem_append_left _ (List.mem_append_right _ hw9)))
  refine lv_aload_n hx hb dX5_costWithout_0 rfl (lv_at hl 0 rfl) ?_
  refine O5_g0 hC hinX5 hK (hw.sub sC1O) (List.mem_of_getElem? (i := 1) rfl) dX5_costWithout_1 ?_
  refine lv_iload_n hx hb dX5_costWithout_4 rfl (lv_at hl 2 rfl) ?_
  refine lv_iconst (v := (1 : Int32)) hx hb dX5_costWithout_5 (by decide) ?_
  refine mcalli (w1 := (fun u9 : Bun => wC g q (va_up C 1 u9, N))) (va_runVN (C := RX1) (As := [.int a2, .int (1 : Int32)]) (rest := []) hC (kX1_mark l g aK aV (q 1) H.size (C 1) a2 (1 : Int32) _ h) ⟨va_cnB 2 hts gX5_costWithout_X1_mark_n83 rfl rfl rfl hE.nMX5_83 (hts (.initialized RX1) (List.mem_of_getElem? (i := 5) rfl)) (by decide +kernel) ⟨Nat.le_of_ble_eq_true rfl, Nat.le_of_ble_eq_true rfl⟩, (hts (.instanceMethod yX1_mark) (List.mem_of_getElem? (i := 4) rfl)), (hts (.selects RX1 yX1_mark yX1_mark) (List.mem_of_getElem? (i := 6) rfl))⟩ (mpreV (E5_ok aK aV) hK hE hA hw (sC1P isP1) 0 rfl rfl) rfl rfl hl.1 rfl (lv_room (Nat.le_of_ble_eq_true rfl)) dX5_costWithout_6 ⟨Nat.zero_le _, Nat.zero_le _⟩) hA hw (sC1P isP1) (fun u9 => sCP isP1 u9) (fun r1 u2 H locs h hw => ?_)
  obtain ⟨hu, h⟩ := h
  replace hu := hu.symm
  subst hu
  replace hw : Wd g.1 A s.heap ((wC g q) (C, N)) H locs := by first | exact hw | (simpa only [up_self] using hw)
  refine lv_istore (lv' := [(4, .int r1), (0, .ref (q 0 0)), (1, .int a1), (2, .int a2), (3, .int a3)]) hx hb dX5_costWithout_9 hl (by decide) rfl (fun ls hl => ?_)
  refine lv_aload_n hx hb dX5_costWithout_11 rfl (lv_at hl 1 rfl) ?_
  refine O5_g0 hC hinX5 hK (hw.sub sC1O) (List.mem_of_getElem? (i := 1) rfl) dX5_costWithout_12 ?_
  refine lv_iload_n hx hb dX5_costWithout_15 rfl (lv_at hl 3 rfl) ?_
  refine lv_iconst (v := (0 : Int32)) hx hb dX5_costWithout_16 (by decide) ?_
  refine mcalli (w1 := (fun u9 : Bun => wC g q (va_up C 1 u9, N))) (va_runVN (C := RX1) (As := [.int a2, .int (0 : Int32)]) (rest := []) hC (kX1_mark l g aK aV (q 1) H.size (C 1) a2 (0 : Int32) _ h) ⟨va_cnB 2 hts gX5_costWithout_X1_mark_n83 rfl rfl rfl hE.nMX5_83 (hts (.initialized RX1) (List.mem_of_getElem? (i := 5) rfl)) (by decide +kernel) ⟨Nat.le_of_ble_eq_true rfl, Nat.le_of_ble_eq_true rfl⟩, (hts (.instanceMethod yX1_mark) (List.mem_of_getElem? (i := 4) rfl)), (hts (.selects RX1 yX1_mark yX1_mark) (List.mem_of_getElem? (i := 6) rfl))⟩ (mpreV (E5_ok aK aV) hK hE hA hw (sC1P isP1) 0 rfl rfl) rfl rfl hl.1 rfl (lv_room (Nat.le_of_ble_eq_true rfl)) dX5_costWithout_17 ⟨Nat.zero_le _, Nat.zero_le _⟩) hA hw (sC1P isP1) (fun u9 => sCP isP1 u9) (fun r3 u4 H locs h hw => ?_)
  obtain ⟨hu, h⟩ := h
  replace hu := hu.symm
  subst hu
  replace hw : Wd g.1 A s.heap ((wC g q) (C, N)) H locs := by first | exact hw | (simpa only [up_self] using hw)
  refine lv_iconst (v := (1 : Int32)) hx hb dX5_costWithout_20 (by decide) ?_
  refine lv_iload_n hx hb dX5_costWithout_21 rfl (lv_at hl 4 rfl) ?_
  refine lv_ishl hx hb dX5_costWithout_22 ?_
  refine lv_iconst (v := (-1 : Int32)) hx hb dX5_costWithout_23 (by decide) ?_
  refine lv_ixor hx hb dX5_costWithout_24 ?_
  refine lv_iand hx hb dX5_costWithout_25 ?_
  refine lv_topi (fun x5 ex5 => ?_)
  replace h := h x5 ex5
  refine lv_istore (lv' := [(5, .int x5), (4, .int r1), (0, .ref (q 0 0)), (1, .int a1), (2, .int a2), (3, .int a3)]) hx hb dX5_costWithout_26 hl (by decide) rfl (fun ls hl => ?_)
  refine lv_ldcw (v := (65535 : Int32)) hx hb hown (hts (.constant RX5 290 (65535)) (List.mem_of_getElem? (i := 2) rfl)) dX5_costWithout_28 ?_
  refine lv_iload hx hb dX5_costWithout_31 (lv_at hl 0 rfl) ?_
  refine lv_iload hx hb dX5_costWithout_33 (lv_at hl 1 rfl) ?_
  refine lv_ior hx hb dX5_costWithout_35 ?_
  refine lv_iconst (v := (-1 : Int32)) hx hb dX5_costWithout_36 (by decide) ?_
  refine lv_ixor hx hb dX5_costWithout_37 ?_
  refine lv_iand hx hb dX5_costWithout_38 ?_
  refine lv_topi (fun x6 ex6 => ?_)
  replace h := h x6 ex6
  refine lv_istore (lv' := [(6, .int x6), (5, .int x5), (4, .int r1), (0, .ref (q 0 0)), (1, .int a1), (2, .int a2), (3, .int a3)]) hx hb dX5_costWithout_39 hl (by decide) rfl (fun ls hl => ?_)
  refine lv_aload_n hx hb dX5_costWithout_41 rfl (lv_at hl 3 rfl) ?_
  refine O5_g8 hC hinX5 hK (hw.sub sC1O) (List.mem_of_getElem? (i := 3) rfl) dX5_costWithout_42 ?_
  refine lv_aload_n hx hb dX5_costWithout_45 rfl (lv_at hl 3 rfl) ?_
  refine O5_g0 hC hinX5 hK (hw.sub sC1O) (List.mem_of_getElem? (i := 1) rfl) dX5_costWithout_46 ?_
  refine P5_pg4 hC hinX1 hK (hw.sub (sC1P isP1)) hE.nFX5_119 dX5_costWithout_49 ?_
  refine lv_iload_n hx hb dX5_costWithout_52 rfl (lv_at hl 4 rfl) ?_
  obtain ⟨hi, h⟩ := h
  refine P5_pl4 hC hK (hw.sub (sC1P isP1)) hi dX5_costWithout_53 ?_
  refine lv_iload hx hb dX5_costWithout_54 (lv_at hl 0 rfl) ?_
  refine lv_iload hx hb dX5_costWithout_56 (lv_at hl 2 rfl) ?_
  refine lv_aload_n hx hb dX5_costWithout_58 rfl (lv_at hl 3 rfl) ?_
  refine O5_g0 hC hinX5 hK (hw.sub sC1O) (List.mem_of_getElem? (i := 1) rfl) dX5_costWithout_59 ?_
  refine lv_iload_n hx hb dX5_costWithout_62 rfl (lv_at hl 5 rfl) ?_
  refine lv_iconst (v := (2 : Int32)) hx hb dX5_costWithout_63 (by decide) ?_
  refine mcalli (w1 := (fun u9 : Bun => wC g q (va_up C 1 u9, N))) (va_runVN (C := RX1) (As := [.int a2, .int (2 : Int32)]) (rest := [.int r1, .int x6, .int (C 1 5 a1.toNatClampNeg), .ref (q 6 0)]) hC (kX1_mark l g aK aV (q 1) H.size (C 1) a2 (2 : Int32) _ h) ⟨va_cnB 2 hts gX5_costWithout_X1_mark_n83 rfl rfl rfl hE.nMX5_83 (hts (.initialized RX1) (List.mem_of_getElem? (i := 5) rfl)) (by decide +kernel) ⟨Nat.le_of_ble_eq_true rfl, Nat.le_of_ble_eq_true rfl⟩, (hts (.instanceMethod yX1_mark) (List.mem_of_getElem? (i := 4) rfl)), (hts (.selects RX1 yX1_mark yX1_mark) (List.mem_of_getElem? (i := 6) rfl))⟩ (mpreV (E5_ok aK aV) hK hE hA hw (sC1P isP1) 0 rfl rfl) rfl rfl hl.1 rfl (lv_room (Nat.le_of_ble_eq_true rfl)) dX5_costWithout_64 ⟨Nat.zero_le _, Nat.zero_le _⟩) hA hw (sC1P isP1) (fun u9 => sCP isP1 u9) (fun r7 u8 H locs h hw => ?_)
  obtain ⟨hu, h⟩ := h
  replace hu := hu.symm
  subst hu
  replace hw : Wd g.1 A s.heap ((wC g q) (C, N)) H locs := by first | exact hw | (simpa only [up_self] using hw)
  refine lv_aload_n hx hb dX5_costWithout_67 rfl (lv_at hl 3 rfl) ?_
  refine O5_g0 hC hinX5 hK (hw.sub sC1O) (List.mem_of_getElem? (i := 1) rfl) dX5_costWithout_68 ?_
  refine lv_iload_n hx hb dX5_costWithout_71 rfl (lv_at hl 5 rfl) ?_
  refine lv_iconst (v := (3 : Int32)) hx hb dX5_costWithout_72 (by decide) ?_
  refine mcalli (w1 := (fun u9 : Bun => wC g q (va_up C 1 u9, N))) (va_runVN (C := RX1) (As := [.int a2, .int (3 : Int32)]) (rest := [.int r7, .int r1, .int x6, .int (C 1 5 a1.toNatClampNeg), .ref (q 6 0)]) hC (kX1_mark l g aK aV (q 1) H.size (C 1) a2 (3 : Int32) _ h) ⟨va_cnB 2 hts gX5_costWithout_X1_mark_n83 rfl rfl rfl hE.nMX5_83 (hts (.initialized RX1) (List.mem_of_getElem? (i := 5) rfl)) (by decide +kernel) ⟨Nat.le_of_ble_eq_true rfl, Nat.le_of_ble_eq_true rfl⟩, (hts (.instanceMethod yX1_mark) (List.mem_of_getElem? (i := 4) rfl)), (hts (.selects RX1 yX1_mark yX1_mark) (List.mem_of_getElem? (i := 6) rfl))⟩ (mpreV (E5_ok aK aV) hK hE hA hw (sC1P isP1) 0 rfl rfl) rfl rfl hl.1 rfl (lv_room (Nat.le_of_ble_eq_true rfl)) dX5_costWithout_73 ⟨Nat.zero_le _, Nat.zero_le _⟩) hA hw (sC1P isP1) (fun u9 => sCP isP1 u9) (fun r9 u10 H locs h hw => ?_)
  obtain ⟨hu, h⟩ := h
  replace hu := hu.symm
  subst hu
  replace hw : Wd g.1 A s.heap ((wC g q) (C, N)) H locs := by first | exact hw | (simpa only [up_self] using hw)
  refine mcallv (w1 := (fun u9 : Bun => wC g q (va_up C 6 u9, N))) (va_runVN (C := RX0) (As := [.int (C 1 5 a1.toNatClampNeg), .int x6, .int r1, .int r7, .int r9]) (rest := []) hC (kX0_ask l g aK aV (q 6) H.size (C 6) (C 1 5 a1.toNatClampNeg) x6 r1 r7 r9 _ h) ⟨va_cnB 5 hts gX5_costWithout_X0_ask_n172 rfl rfl rfl hE.nMX5_172 (hts (.initialized RX0) (List.mem_of_getElem? (i := 10) rfl)) (by decide +kernel) ⟨Nat.le_of_ble_eq_true rfl, Nat.le_of_ble_eq_true rfl⟩, (hts (.instanceMethod yX0_ask) (List.mem_of_getElem? (i := 9) rfl)), (hts (.selects RX0 yX0_ask yX0_ask) (List.mem_of_getElem? (i := 11) rfl))⟩ (mpreV (E5_ok aK aV) hK hE hA hw (sC1F isF6) 0 rfl rfl) rfl rfl hl.1 rfl (lv_room (Nat.le_of_ble_eq_true rfl)) dX5_costWithout_76 ⟨Nat.zero_le _, Nat.zero_le _⟩) hA hw (sC1F isF6) (fun u9 => sCF isF6 u9) (fun u12 H locs h hw => ?_)
  obtain ⟨S14, rfl⟩ : ∃ z, z = u12 := ⟨_, rfl⟩
  obtain ⟨C13, eC13⟩ : ∃ z, z = va_up C 6 S14 := ⟨_, rfl⟩
  replace h := h C13 eC13
  replace hw : Wd g.1 A s.heap ((wC g q) (C13, N)) H locs := by rw [eC13]; exact hw
  refine lv_aload_n hx hb dX5_costWithout_79 rfl (lv_at hl 3 rfl) ?_
  refine lv_iload_n hx hb dX5_costWithout_80 rfl (lv_at hl 4 rfl) ?_
  refine lv_aload_n hx hb dX5_costWithout_81 rfl (lv_at hl 3 rfl) ?_
  refine O5_g8 hC hinX5 hK (hw.sub sC1O) (List.mem_of_getElem? (i := 3) rfl) dX5_costWithout_82 ?_
  refine mcalli (w1 := (wC g q)) (va_runV (As := [.int a1, .ref (q 6 0)]) (rest := []) hC (kX5_costOf l g aK aV q H.size C13 N a1 6 _ h) (cwV 2 hts gX5_costWithout_X5_costOf rfl rfl rfl (by decide +kernel) ⟨Nat.le_of_ble_eq_true rfl, Nat.le_of_ble_eq_true rfl⟩) (mpreV (E5_ok aK aV) hK hE hA hw (Sub1.refl _) 0 rfl rfl) rfl rfl hl.1 rfl (lv_room (Nat.le_of_ble_eq_true rfl)) dX5_costWithout_85 ⟨Nat.zero_le _, Nat.zero_le _⟩) hA hw (Sub1.refl _) (fun u9 => Sub.whole (wC_map u9.1 u9.2)) (fun r15 u16 H locs h hw => ?_)
  obtain ⟨hu, h⟩ := h
  replace hu := hu.symm
  subst hu
  rw [hQ]
  exact mreti (w := (wC g q)) (u := (C13, N)) hC hr hlocks hK hw ⟨rfl, h⟩ dX5_costWithout_88
def wX5_stone (C : Nat → Bun) (N : Nat → Lon) (a1 : Int32) (a2 : Int32) (post : Int32 → (Nat → Bun) → Prop) : Prop :=
  wX1_hasTeam (C 1) a1 (fun r1 => wjoin (σ := Unit) (fun _ => wX5_finding C N (0 : Int32) (fun r6 C8 => post r6 C8)) (fun J3 => ((r1 = 0 → J3 ()) ∧ (¬ (r1 = 0) → wX1_hasField (C 1) a2 (fun r10 => ((r10 = 0 → J3 ()) ∧ (¬ (r10 = 0) → wX1_mark (C 1) a2 (0 : Int32) (fun r12 => wloop (σ := Int32 × Int32 × Int32 × (Nat → Bun)) (fun K18 z => match z with | (x14, x15, x16, C17) => (((16 : Int32) ≤ x16 → ((0 ≤ x15 → post x15 C17) ∧ (¬ (0 ≤ x15) → wX5_finding C17 N (3 : Int32) (fun r24 C26 => post r24 C26)))) ∧ (¬ ((16 : Int32) ≤ x16) → wX5_holds r12 x16 (fun r29 => ((r29 = 0 → ∀ x31 : Int32, x31 = x16 + (1 : Int32) → K18 (x14, x15, x31, C17)) ∧ (¬ (r29 = 0) → wX5_costWithout C17 N a1 a2 x16 (fun r33 C35 => ((x14 ≤ r33 → ∀ x37 : Int32, x37 = x16 + (1 : Int32) → K18 (x14, x15, x37, C35)) ∧ (¬ (x14 ≤ r33) → ∀ x39 : Int32, x39 = x16 + (1 : Int32) → K18 (r33, x16, x39, C35)))))))))) ((1000000 : Int32), (-1 : Int32), (0 : Int32), C)))))))))
set_option maxRecDepth 100000 in
set_option maxHeartbeats 4000000 in
theorem kX5_stone (l : Launch) (g : Gl) (aK : Nat → Nat) (aV : Nat → Nat) (q : Nat → Nat → Nat) (sz : Nat) (C : Nat → Bun) (N : Nat → Lon) (a1 : Int32) (a2 : Int32) (post : Int32 → (Nat → Bun) → Prop) (h : wX5_stone C N a1 a2 post) : Met l yX5_stone wsX5_stone (rmm 23 700) (wPc g (E5 aK aV) ((wC g q) (C, N)) sz [.ref (q 0 0), .int a1, .int a2]) (va_Qi (fun (r : Int32) (u : (Nat → Bun) × (Nat → Lon)) => u.2 = N ∧ post r u.1) (wB g (wC g q) (va_A ((wC g q) (C, N)) sz)) (va_A ((wC g q) (C, N)) sz)) 0 0 (va_A ((wC g q) (C, N)) sz) := by
  refine mstart (Qf := fun A => va_Qi (fun (r : Int32) (u : (Nat → Bun) × (Nat → Lon)) => u.2 = N ∧ post r u.1) (wB g (wC g q) A) A) (by decide) rfl (Nat.le_of_ble_eq_true rfl) ?_
  intro p e s m args below meth c A Q H locs ls hC hr hlocks hname hQ hA hK hE hw hl
  have hC : CallFix p m c cX5_stone 8 s args wsX5_stone RX5 := hC
  obtain ⟨hx, hb, -, hown, hts⟩ := id hC
  have hl : lv_has ls 8 [(0, .ref (q 0 0)), (1, .int a1), (2, .int a2)] := hl
  rw [wX5_stone] at h
  have hinX5 : ∀ w ∈ wsX50, w ∈ wsX5_stone := fun w hw9 => List.mem_cons_of_mem _ (List.mem_append_left _ (List.mem_append_left _ (List.mem_append_right _ hw9)))
  refine lv_aload_n hx hb dX5_stone_0 rfl (lv_at hl 0 rfl) ?_
  refine O5_g0 hC hinX5 hK (hw.sub sC1O) (List.mem_of_getElem? (i := 1) rfl) dX5_stone_1 ?_
  refine lv_iload_n hx hb dX5_stone_4 rfl (lv_at hl 1 rfl) ?_
  refine mcalli (w1 := (fun u9 : Bun => wC g q (va_up C 1 u9, N))) (va_runVN (C := RX1) (As := [.int a1]) (rest := []) hC (kX1_hasTeam l g aK aV (q 1) H.size (C 1) a1 _ h) ⟨va_cnB 1 hts gX5_stone_X1_hasTeam_n116 rfl rfl rfl hE.nMX5_116 (hts (.initialized RX1) (List.mem_of_getElem? (i := 4) rfl)) (by decide +kernel) ⟨Nat.le_of_ble_eq_true rfl, Nat.le_of_ble_eq_true rfl⟩, (hts (.instanceMethod yX1_hasTeam) (List.mem_of_getElem? (i := 3) rfl)), (hts (.selects RX1 yX1_hasTeam yX1_hasTeam) (List.mem_of_getElem? (i := 5) rfl))⟩ (mpreV (E5_ok aK aV) hK hE hA hw (sC1P isP1) 0 rfl rfl) rfl rfl hl.1 rfl (lv_room (Nat.le_of_ble_eq_true rfl)) dX5_stone_5 ⟨Nat.zero_le _, Nat.zero_le _⟩) hA hw (sC1P isP1) (fun u9 => sCP isP1 u9) (fun r1 u2 H locs h hw => ?_)
  obtain ⟨hu, h⟩ := h
  replace hu := hu.symm
  subst hu
  replace hw : Wd g.1 A s.heap ((wC g q) (C, N)) H locs := by first | exact hw | (simpa only [up_self] using hw)
  obtain ⟨J3, hJ4, h⟩ := h
  have join5 : ∀  (H : Heap) (locs : List Loc) (ls : Array Slot), J3 () → Wd g.1 A s.heap ((wC g q) (C, N)) H locs → lv_has ls 8 [(0, .ref (q 0 0))] → W p l e (rmm 23 700) s m args below meth c H locs 0 0 Q (F0 m 22 ls []) := by
    intro  H locs ls h hw hl
    replace h := hJ4 () h
    refine lv_aload_n hx hb dX5_stone_22 rfl (lv_at hl 0 rfl) ?_
    refine lv_iconst (v := (0 : Int32)) hx hb dX5_stone_23 (by decide) ?_
    refine mcalli (w1 := (wC g q)) (va_runV (As := [.int (0 : Int32)]) (rest := []) hC (kX5_finding l g aK aV q H.size C N (0 : Int32) _ h) (cwV 1 hts gX5_stone_X5_finding rfl rfl rfl (by decide +kernel) ⟨Nat.le_of_ble_eq_true rfl, Nat.le_of_ble_eq_true rfl⟩) (mpreV (E5_ok aK aV) hK hE hA hw (Sub1.refl _) 0 rfl rfl) rfl rfl hl.1 rfl (lv_room (Nat.le_of_ble_eq_true rfl)) dX5_stone_24 ⟨Nat.zero_le _, Nat.zero_le _⟩) hA hw (Sub1.refl _) (fun u9 => Sub.whole (wC_map u9.1 u9.2)) (fun r6 u7 H locs h hw => ?_)
    obtain ⟨C8, N9⟩ := u7
    obtain ⟨hu, h⟩ := h
    replace hu : N = N9 := hu.symm
    subst hu
    rw [hQ]
    exact mreti (w := (wC g q)) (u := (C8, N)) hC hr hlocks hK hw ⟨rfl, h⟩ dX5_stone_27
  refine lv_if_eq (tgt := 22) hx hb dX5_stone_8 (by decide) (fun c45 => ?_) (fun c45 => ?_)
  · replace h := h.1 c45
    exact join5  _ _ _ h hw (lv_sub hl [0] rfl)
  · replace h := h.2 c45
    refine lv_aload_n hx hb dX5_stone_11 rfl (lv_at hl 0 rfl) ?_
    refine O5_g0 hC hinX5 hK (hw.sub sC1O) (List.mem_of_getElem? (i := 1) rfl) dX5_stone_12 ?_
    refine lv_iload_n hx hb dX5_stone_15 rfl (lv_at hl 2 rfl) ?_
    refine mcalli (w1 := (fun u9 : Bun => wC g q (va_up C 1 u9, N))) (va_runVN (C := RX1) (As := [.int a2]) (rest := []) hC (kX1_hasField l g aK aV (q 1) H.size (C 1) a2 _ h) ⟨va_cnB 1 hts gX5_stone_X1_hasField_n73 rfl rfl rfl hE.nMX5_73 (hts (.initialized RX1) (List.mem_of_getElem? (i := 4) rfl)) (by decide +kernel) ⟨Nat.le_of_ble_eq_true rfl, Nat.le_of_ble_eq_true rfl⟩, (hts (.instanceMethod yX1_hasField) (List.mem_of_getElem? (i := 8) rfl)), (hts (.selects RX1 yX1_hasField yX1_hasField) (List.mem_of_getElem? (i := 9) rfl))⟩ (mpreV (E5_ok aK aV) hK hE hA hw (sC1P isP1) 0 rfl rfl) rfl rfl hl.1 rfl (lv_room (Nat.le_of_ble_eq_true rfl)) dX5_stone_16 ⟨Nat.zero_le _, Nat.zero_le _⟩) hA hw (sC1P isP1) (fun u9 => sCP isP1 u9) (fun r10 u11 H locs h hw => ?_)
    obtain ⟨hu, h⟩ := h
    replace hu := hu.symm
    subst hu
    replace hw : Wd g.1 A s.heap ((wC g q) (C, N)) H locs := by first | exact hw | (simpa only [up_self] using hw)
    refine lv_if_ne (tgt := 28) hx hb dX5_stone_19 (by decide) (fun c44 => ?_) (fun c44 => ?_)
    · replace h := h.2 c44
      refine lv_aload_n hx hb dX5_stone_28 rfl (lv_at hl 0 rfl) ?_
      refine O5_g0 hC hinX5 hK (hw.sub sC1O) (List.mem_of_getElem? (i := 1) rfl) dX5_stone_29 ?_
      refine lv_iload_n hx hb dX5_stone_32 rfl (lv_at hl 2 rfl) ?_
      refine lv_iconst (v := (0 : Int32)) hx hb dX5_stone_33 (by decide) ?_
      refine mcalli (w1 := (fun u9 : Bun => wC g q (va_up C 1 u9, N))) (va_runVN (C := RX1) (As := [.int a2, .int (0 : Int32)]) (rest := []) hC (kX1_mark l g aK aV (q 1) H.size (C 1) a2 (0 : Int32) _ h) ⟨va_cnB 2 hts gX5_stone_X1_mark_n83 rfl rfl rfl hE.nMX5_83 (hts (.initialized RX1) (List.mem_of_getElem? (i := 4) rfl)) (by decide +kernel) ⟨Nat.le_of_ble_eq_true rfl, Nat.le_of_ble_eq_true rfl⟩, (hts (.instanceMethod yX1_mark) (List.mem_of_getElem? (i := 19) rfl)), (hts (.selects RX1 yX1_mark yX1_mark) (List.mem_of_getElem? (i := 20) rfl))⟩ (mpreV (E5_ok aK aV) hK hE hA hw (sC1P isP1) 0 rfl rfl) rfl rfl hl.1 rfl (lv_room (Nat.le_of_ble_eq_true rfl)) dX5_stone_34 ⟨Nat.zero_le _, Nat.zero_le _⟩) hA hw (sC1P isP1) (fun u9 => sCP isP1 u9) (fun r12 u13 H locs h hw => ?_)
      obtain ⟨hu, h⟩ := h
      replace hu := hu.symm
      subst hu
      replace hw : Wd g.1 A s.heap ((wC g q) (C, N)) H locs := by first | exact hw | (simpa only [up_self] using hw)
      refine lv_istore_n (lv' := [(3, .int r12), (0, .ref (q 0 0)), (1, .int a1), (2, .int a2)]) hx hb dX5_stone_37 rfl hl (by decide) rfl (fun ls hl => ?_)
      refine lv_ldc (v := (1000000 : Int32)) hx hb hown (hts (.constant RX5 168 (1000000)) (List.mem_of_getElem? (i := 2) rfl)) dX5_stone_38 ?_
      refine lv_istore (lv' := [(4, .int (1000000 : Int32)), (3, .int r12), (0, .ref (q 0 0)), (1, .int a1), (2, .int a2)]) hx hb dX5_stone_40 hl (by decide) rfl (fun ls hl => ?_)
      refine lv_iconst (v := (-1 : Int32)) hx hb dX5_stone_42 (by decide) ?_
      refine lv_istore (lv' := [(5, .int (-1 : Int32)), (4, .int (1000000 : Int32)), (3, .int r12), (0, .ref (q 0 0)), (1, .int a1), (2, .int a2)]) hx hb dX5_stone_43 hl (by decide) rfl (fun ls hl => ?_)
      refine lv_iconst (v := (0 : Int32)) hx hb dX5_stone_45 (by decide) ?_
      refine lv_istore (lv' := [(6, .int (0 : Int32)), (5, .int (-1 : Int32)), (4, .int (1000000 : Int32)), (3, .int r12), (0, .ref (q 0 0)), (1, .int a1), (2, .int a2)]) hx hb dX5_stone_46 hl (by decide) rfl (fun ls hl => ?_)
      refine h (fun z => match z with | (x14, x15, x16, C17) => ∀ (H : Heap) (locs : List Loc) (ls : Array Slot), Wd g.1 A s.heap ((wC g q) (C17, N)) H locs → lv_has ls 8 [(0, .ref (q 0 0)), (1, .int a1), (2, .int a2), (3, .int r12), (4, .int x14), (5, .int x15), (6, .int x16)] → W p l e (rmm 23 700) s m args below meth c H locs 0 0 Q (F0 m 48 ls [])) ?_ _ _ _ hw (lv_sub hl [4, 5, 6, 3, 2, 1, 0] rfl)
      clear h hw hl
      rintro ⟨x14, x15, x16, C17⟩ h H locs ls hw hl
      refine lv_iload hx hb dX5_stone_48 (lv_at hl 6 rfl) ?_
      refine lv_bipush (v := (16 : Int32)) hx hb dX5_stone_50 (by decide) ?_
      refine lv_icmp_ge (tgt := 95) hx hb dX5_stone_52 (by decide) (fun c43 => ?_) (fun c43 => ?_)
      · replace h := h.1 c43
        refine lv_iload hx hb dX5_stone_95 (lv_at hl 5 rfl) ?_
        refine lv_if_ge (tgt := 108) hx hb dX5_stone_97 (by decide) (fun c28 => ?_) (fun c28 => ?_)
        · replace h := h.1 c28
          refine lv_iload hx hb dX5_stone_108 (lv_at hl 5 rfl) ?_
          rw [hQ]
          exact mreti (w := (wC g q)) (u := (C17, N)) hC hr hlocks hK hw ⟨rfl, h⟩ dX5_stone_110
        · replace h := h.2 c28
          refine lv_aload_n hx hb dX5_stone_100 rfl (lv_at hl 0 rfl) ?_
          refine lv_iconst (v := (3 : Int32)) hx hb dX5_stone_101 (by decide) ?_
          refine mcalli (w1 := (wC g q)) (va_runV (As := [.int (3 : Int32)]) (rest := []) hC (kX5_finding l g aK aV q H.size C17 N (3 : Int32) _ h) (cwV 1 hts gX5_stone_X5_finding rfl rfl rfl (by decide +kernel) ⟨Nat.le_of_ble_eq_true rfl, Nat.le_of_ble_eq_true rfl⟩) (mpreV (E5_ok aK aV) hK hE hA hw (Sub1.refl _) 0 rfl rfl) rfl rfl hl.1 rfl (lv_room (Nat.le_of_ble_eq_true rfl)) dX5_stone_102 ⟨Nat.zero_le _, Nat.zero_le _⟩) hA hw (Sub1.refl _) (fun u9 => Sub.whole (wC_map u9.1 u9.2)) (fun r24 u25 H locs h hw => ?_)
          obtain ⟨C26, N27⟩ := u25
          obtain ⟨hu, h⟩ := h
          replace hu : N = N27 := hu.symm
          subst hu
          refine lv_goto (tgt := 110) hx hb dX5_stone_105 (by decide) ?_
          rw [hQ]
          exact mreti (w := (wC g q)) (u := (C26, N)) hC hr hlocks hK hw ⟨rfl, h⟩ dX5_stone_110
      · replace h := h.2 c43
        refine lv_iload_n hx hb dX5_stone_55 rfl (lv_at hl 3 rfl) ?_
        refine lv_iload hx hb dX5_stone_56 (lv_at hl 6 rfl) ?_
        refine mcalli (w1 := (fun _ => (wC g q) (C17, N))) (wc := fun _ : Unit => ([] : va_W)) (u := ()) (va_runS (As := [.int r12, .int x16]) (rest := []) hC (kX5_holds l g aK aV H.size r12 x16 _ h) (va_cwS 2 hts gX5_stone_X5_holds rfl rfl rfl (by decide +kernel) ⟨Nat.le_of_ble_eq_true rfl, Nat.le_of_ble_eq_true rfl⟩) (mpre (E5_ok aK aV) hK hE hA hw (Sub1.nil _)) rfl rfl hl.1 rfl (lv_room (Nat.le_of_ble_eq_true rfl)) dX5_stone_58 ⟨Nat.zero_le _, Nat.zero_le _⟩) hA hw (Sub1.nil _) (fun _ => Sub.nil _) (fun r29 u30 H locs h hw => ?_)
        obtain ⟨_, h⟩ := h
        refine lv_if_eq (tgt := 89) hx hb dX5_stone_61 (by decide) (fun c42 => ?_) (fun c42 => ?_)
        · replace h := h.1 c42
          obtain ⟨x31, ex31⟩ : ∃ y : Int32, y = x16 + (1 : Int32) := ⟨_, rfl⟩
          refine lv_iinc (v := x31) (lv' := [(6, .int x31), (0, .ref (q 0 0)), (1, .int a1), (2, .int a2), (3, .int r12), (4, .int x14), (5, .int x15)]) hx hb dX5_stone_89 hl (k := 6) rfl (by rw [ex31]; rfl) (by decide) rfl (fun ls hl => ?_)
          replace h := h x31 ex31
          refine lv_goto (tgt := 48) hx hb dX5_stone_92 (by decide) ?_
          exact h _ _ _ hw (lv_sub hl [1, 2, 3, 4, 5, 6, 0] rfl)
        · replace h := h.2 c42
          refine lv_aload_n hx hb dX5_stone_64 rfl (lv_at hl 0 rfl) ?_
          refine lv_iload_n hx hb dX5_stone_65 rfl (lv_at hl 1 rfl) ?_
          refine lv_iload_n hx hb dX5_stone_66 rfl (lv_at hl 2 rfl) ?_
          refine lv_iload hx hb dX5_stone_67 (lv_at hl 6 rfl) ?_
          refine mcalli (w1 := (wC g q)) (va_runV (As := [.int a1, .int a2, .int x16]) (rest := []) hC (kX5_costWithout l g aK aV q H.size C17 N a1 a2 x16 _ h) (cwV 3 hts gX5_stone_X5_costWithout rfl rfl rfl (by decide +kernel) ⟨Nat.le_of_ble_eq_true rfl, Nat.le_of_ble_eq_true rfl⟩) (mpreV (E5_ok aK aV) hK hE hA hw (Sub1.refl _) 0 rfl rfl) rfl rfl hl.1 rfl (lv_room (Nat.le_of_ble_eq_true rfl)) dX5_stone_69 ⟨Nat.zero_le _, Nat.zero_le _⟩) hA hw (Sub1.refl _) (fun u9 => Sub.whole (wC_map u9.1 u9.2)) (fun r33 u34 H locs h hw => ?_)
          obtain ⟨C35, N36⟩ := u34
          obtain ⟨hu, h⟩ := h
          replace hu : N = N36 := hu.symm
          subst hu
          refine lv_istore (lv' := [(7, .int r33), (0, .ref (q 0 0)), (1, .int a1), (2, .int a2), (3, .int r12), (4, .int x14), (5, .int x15), (6, .int x16)]) hx hb dX5_stone_72 hl (by decide) rfl (fun ls hl => ?_)
          refine lv_iload hx hb dX5_stone_74 (lv_at hl 0 rfl) ?_
          refine lv_iload hx hb dX5_stone_76 (lv_at hl 5 rfl) ?_
          refine lv_icmp_ge (tgt := 89) hx hb dX5_stone_78 (by decide) (fun c41 => ?_) (fun c41 => ?_)
          · replace h := h.1 c41
            obtain ⟨x37, ex37⟩ : ∃ y : Int32, y = x16 + (1 : Int32) := ⟨_, rfl⟩
            refine lv_iinc (v := x37) (lv' := [(6, .int x37), (7, .int r33), (0, .ref (q 0 0)), (1, .int a1), (2, .int a2), (3, .int r12), (4, .int x14), (5, .int x15)]) hx hb dX5_stone_89 hl (k := 7) rfl (by rw [ex37]; rfl) (by decide) rfl (fun ls hl => ?_)
            replace h := h x37 ex37
            refine lv_goto (tgt := 48) hx hb dX5_stone_92 (by decide) ?_
            exact h _ _ _ hw (lv_sub hl [2, 3, 4, 5, 6, 7, 0] rfl)
          · replace h := h.2 c41
            refine lv_iload hx hb dX5_stone_81 (lv_at hl 0 rfl) ?_
            refine lv_istore (lv' := [(4, .int r33), (7, .int r33), (0, .ref (q 0 0)), (1, .int a1), (2, .int a2), (3, .int r12), (5, .int x15), (6, .int x16)]) hx hb dX5_stone_83 hl (by decide) rfl (fun ls hl => ?_)
            refine lv_iload hx hb dX5_stone_85 (lv_at hl 7 rfl) ?_
            refine lv_istore (lv' := [(5, .int x16), (4, .int r33), (7, .int r33), (0, .ref (q 0 0)), (1, .int a1), (2, .int a2), (3, .int r12), (6, .int x16)]) hx hb dX5_stone_87 hl (by decide) rfl (fun ls hl => ?_)
            obtain ⟨x39, ex39⟩ : ∃ y : Int32, y = x16 + (1 : Int32) := ⟨_, rfl⟩
            refine lv_iinc (v := x39) (lv' := [(6, .int x39), (5, .int x16), (4, .int r33), (7, .int r33), (0, .ref (q 0 0)), (1, .int a1), (2, .int a2), (3, .int r12)]) hx hb dX5_stone_89 hl (k := 7) rfl (by rw [ex39]; rfl) (by decide) rfl (fun ls hl => ?_)
            replace h := h x39 ex39
            refine lv_goto (tgt := 48) hx hb dX5_stone_92 (by decide) ?_
            exact h _ _ _ hw (lv_sub hl [4, 5, 6, 7, 2, 1, 0] rfl)
    · replace h := h.1 c44
      exact join5  _ _ _ h hw (lv_sub hl [0] rfl)
def wX5_gate (C : Nat → Bun) (N : Nat → Lon) (a1 : Int32) (a2 : Int32) (a3 : Int32) (post : Int32 → (Nat → Bun) → Prop) : Prop :=
  wX1_hasTeam (C 1) a1 (fun r1 => wjoin (σ := Unit) (fun _ => wX5_finding C N (0 : Int32) (fun r6 C8 => post r6 C8)) (fun J3 => ((r1 = 0 → J3 ()) ∧ (¬ (r1 = 0) → wX1_hasField (C 1) a2 (fun r10 => ((r10 = 0 → J3 ()) ∧ (¬ (r10 = 0) → ((a3 < (2 : Int32) → J3 ()) ∧ (¬ (a3 < (2 : Int32)) → ((a3 ≤ (3 : Int32) → wjoin (σ := Int32) (fun y12 => wjoin (σ := Int32) (fun y16 => vp_in a1 6 ∧ wX1_earth (C 1) a2 (fun r20 => wX1_mark (C 1) a2 (1 : Int32) (fun r22 => wX0_ask (C 6) (C 1 5 a1.toNatClampNeg) r20 r22 y12 y16 (fun S27 => ∀ C26 : Nat → Bun, C26 = va_up C 6 S27 → ((a3 = (2 : Int32) → wloop (σ := Int32 × Int32) (fun K55 z => match z with | (x53, x54) => (((16 : Int32) ≤ x54 → ((0 ≤ x53 → post x53 C26) ∧ (¬ (0 ≤ x53) → wX5_finding C26 N (3 : Int32) (fun r61 C63 => post r61 C63)))) ∧ (¬ ((16 : Int32) ≤ x54) → vp_in x54 16 ∧ (((C26 6 10 x54.toNatClampNeg) < 0 → ∀ x66 : Int32, x66 = x54 + (1 : Int32) → K55 (x53, x66)) ∧ (¬ ((C26 6 10 x54.toNatClampNeg) < 0) → ((x53 < 0 → ∀ x68 : Int32, x68 = x54 + (1 : Int32) → K55 (x54, x68)) ∧ (¬ (x53 < 0) → vp_in x54 16 ∧ vp_in x53 16 ∧ (((C26 6 10 x53.toNatClampNeg) ≤ (C26 6 10 x54.toNatClampNeg) → ∀ x70 : Int32, x70 = x54 + (1 : Int32) → K55 (x53, x70)) ∧ (¬ ((C26 6 10 x53.toNatClampNeg) ≤ (C26 6 10 x54.toNatClampNeg)) → ∀ x72 : Int32, x72 = x54 + (1 : Int32) → K55 (x54, x72)))))))))) ((-1 : Int32), (0 : Int32))) ∧ (¬ (a3 = (2 : Int32)) → wloop (σ := Int32 × Int32) (fun K30 z => match z with | (x28, x29) => (((16 : Int32) ≤ x29 → ((0 ≤ x28 → post x28 C26) ∧ (¬ (0 ≤ x28) → wX5_finding C26 N (3 : Int32) (fun r36 C38 => post r36 C38)))) ∧ (¬ ((16 : Int32) ≤ x29) → vp_in x29 16 ∧ (((C26 6 11 x29.toNatClampNeg) < 0 → ∀ x41 : Int32, x41 = x29 + (1 : Int32) → K30 (x28, x41)) ∧ (¬ ((C26 6 11 x29.toNatClampNeg) < 0) → ((x28 < 0 → ∀ x43 : Int32, x43 = x29 + (1 : Int32) → K30 (x29, x43)) ∧ (¬ (x28 < 0) → vp_in x29 16 ∧ vp_in x28 16 ∧ (((C26 6 11 x28.toNatClampNeg) ≤ (C26 6 11 x29.toNatClampNeg) → ∀ x45 : Int32, x45 = x29 + (1 : Int32) → K30 (x28, x45)) ∧ (¬ ((C26 6 11 x28.toNatClampNeg) ≤ (C26 6 11 x29.toNatClampNeg)) → ∀ x47 : Int32, x47 = x29 + (1 : Int32) → K30 (x29, x47)))))))))) ((-1 : Int32), (0 : Int32)))))))) (fun J17 => ((a3 = (3 : Int32) → J17 (-1 : Int32)) ∧ (¬ (a3 = (3 : Int32)) → wX1_mark (C 1) a2 (3 : Int32) (fun r79 => J17 r79))))) (fun J13 => ((a3 = (2 : Int32) → J13 (-1 : Int32)) ∧ (¬ (a3 = (2 : Int32)) → wX1_mark (C 1) a2 (2 : Int32) (fun r82 => J13 r82))))) ∧ (¬ (a3 ≤ (3 : Int32)) → J3 ())))))))))))
set_option maxRecDepth 100000 in
set_option maxHeartbeats 4000000 in
theorem kX5_gate (l : Launch) (g : Gl) (aK : Nat → Nat) (aV : Nat → Nat) (q : Nat → Nat → Nat) (sz : Nat) (C : Nat → Bun) (N : Nat → Lon) (a1 : Int32) (a2 : Int32) (a3 : Int32) (post : Int32 → (Nat → Bun) → Prop) (h : wX5_gate C N a1 a2 a3 post) : Met l yX5_gate wsX5_gate (rmm 22 674) (wPc g (E5 aK aV) ((wC g q) (C, N)) sz [.ref (q 0 0), .int a1, .int a2, .int a3]) (va_Qi (fun (r : Int32) (u : (Nat → Bun) × (Nat → Lon)) => u.2 = N ∧ post r u.1) (wB g (wC g q) (va_A ((wC g q) (C, N)) sz)) (va_A ((wC g q) (C, N)) sz)) 0 0 (va_A ((wC g q) (C, N)) sz) := by
  refine mstart (Qf := fun A => va_Qi (fun (r : Int32) (u : (Nat → Bun) × (Nat → Lon)) => u.2 = N ∧ post r u.1) (wB g (wC g q) A) A) (by decide) rfl (Nat.le_of_ble_eq_true rfl) ?_
  intro p e s m args below meth c A Q H locs ls hC hr hlocks hname hQ hA hK hE hw hl
  have hC : CallFix p m c cX5_gate 9 s args wsX5_gate RX5 := hC
  obtain ⟨hx, hb, -, hown, hts⟩ := id hC
  have hl : lv_has ls 9 [(0, .ref (q 0 0)), (1, .int a1), (2, .int a2), (3, .int a3)] := hl
  rw [wX5_gate] at h
  have hinX0 : ∀ w ∈ wsX00, w ∈ wsX5_gate := fun w hw9 => List.mem_cons_of_mem _ (List.mem_append_right _ hw9)
  have hinX1 : ∀ w ∈ wsX10, w ∈ wsX5_gate := fun w hw9 => List.mem_cons_of_mem _ (List.mem_append_left _ (List.mem_append_right _ hw9))
  have hinX5 : ∀ w ∈ wsX50, w ∈ wsX5_gate := fun w hw9 => List.mem_cons_of_mem _ (List.mem_append_left _ (List.mem_append_left _ (List.mem_append_right _ hw9)))
  refine lv_aload_n hx hb dX5_gate_0 rfl (lv_at hl 0 rfl) ?_
  refine O5_g0 hC hinX5 hK (hw.sub sC1O) (List.mem_of_getElem? (i := 1) rfl) dX5_gate_1 ?_
  refine lv_iload_n hx hb dX5_gate_4 rfl (lv_at hl 1 rfl) ?_
  refine mcalli (w1 := (fun u9 : Bun => wC g q (va_up C 1 u9, N))) (va_runVN (C := RX1) (As := [.int a1]) (rest := []) hC (kX1_hasTeam l g aK aV (q 1) H.size (C 1) a1 _ h) ⟨va_cnB 1 hts gX5_gate_X1_hasTeam_n116 rfl rfl rfl hE.nMX5_116 (hts (.initialized RX1) (List.mem_of_getElem? (i := 4) rfl)) (by decide +kernel) ⟨Nat.le_of_ble_eq_true rfl, Nat.le_of_ble_eq_true rfl⟩, (hts (.instanceMethod yX1_hasTeam) (List.mem_of_getElem? (i := 3) rfl)), (hts (.selects RX1 yX1_hasTeam yX1_hasTeam) (List.mem_of_getElem? (i := 5) rfl))⟩ (mpreV (E5_ok aK aV) hK hE hA hw (sC1P isP1) 0 rfl rfl) rfl rfl hl.1 rfl (lv_room (Nat.le_of_ble_eq_true rfl)) dX5_gate_5 ⟨Nat.zero_le _, Nat.zero_le _⟩) hA hw (sC1P isP1) (fun u9 => sCP isP1 u9) (fun r1 u2 H locs h hw => ?_)
  obtain ⟨hu, h⟩ := h
  replace hu := hu.symm
  subst hu
  replace hw : Wd g.1 A s.heap ((wC g q) (C, N)) H locs := by first | exact hw | (simpa only [up_self] using hw)
  obtain ⟨J3, hJ4, h⟩ := h
  have join5 : ∀  (H : Heap) (locs : List Loc) (ls : Array Slot), J3 () → Wd g.1 A s.heap ((wC g q) (C, N)) H locs → lv_has ls 9 [(0, .ref (q 0 0))] → W p l e (rmm 22 674) s m args below meth c H locs 0 0 Q (F0 m 32 ls []) := by
    intro  H locs ls h hw hl
    replace h := hJ4 () h
    refine lv_aload_n hx hb dX5_gate_32 rfl (lv_at hl 0 rfl) ?_
    refine lv_iconst (v := (0 : Int32)) hx hb dX5_gate_33 (by decide) ?_
    refine mcalli (w1 := (wC g q)) (va_runV (As := [.int (0 : Int32)]) (rest := []) hC (kX5_finding l g aK aV q H.size C N (0 : Int32) _ h) (cwV 1 hts gX5_gate_X5_finding rfl rfl rfl (by decide +kernel) ⟨Nat.le_of_ble_eq_true rfl, Nat.le_of_ble_eq_true rfl⟩) (mpreV (E5_ok aK aV) hK hE hA hw (Sub1.refl _) 0 rfl rfl) rfl rfl hl.1 rfl (lv_room (Nat.le_of_ble_eq_true rfl)) dX5_gate_34 ⟨Nat.zero_le _, Nat.zero_le _⟩) hA hw (Sub1.refl _) (fun u9 => Sub.whole (wC_map u9.1 u9.2)) (fun r6 u7 H locs h hw => ?_)
    obtain ⟨C8, N9⟩ := u7
    obtain ⟨hu, h⟩ := h
    replace hu : N = N9 := hu.symm
    subst hu
    rw [hQ]
    exact mreti (w := (wC g q)) (u := (C8, N)) hC hr hlocks hK hw ⟨rfl, h⟩ dX5_gate_37
  refine lv_if_eq (tgt := 32) hx hb dX5_gate_8 (by decide) (fun c88 => ?_) (fun c88 => ?_)
  · replace h := h.1 c88
    exact join5  _ _ _ h hw (lv_sub hl [0] rfl)
  · replace h := h.2 c88
    refine lv_aload_n hx hb dX5_gate_11 rfl (lv_at hl 0 rfl) ?_
    refine O5_g0 hC hinX5 hK (hw.sub sC1O) (List.mem_of_getElem? (i := 1) rfl) dX5_gate_12 ?_
    refine lv_iload_n hx hb dX5_gate_15 rfl (lv_at hl 2 rfl) ?_
    refine mcalli (w1 := (fun u9 : Bun => wC g q (va_up C 1 u9, N))) (va_runVN (C := RX1) (As := [.int a2]) (rest := []) hC (kX1_hasField l g aK aV (q 1) H.size (C 1) a2 _ h) ⟨va_cnB 1 hts gX5_gate_X1_hasField_n73 rfl rfl rfl hE.nMX5_73 (hts (.initialized RX1) (List.mem_of_getElem? (i := 4) rfl)) (by decide +kernel) ⟨Nat.le_of_ble_eq_true rfl, Nat.le_of_ble_eq_true rfl⟩, (hts (.instanceMethod yX1_hasField) (List.mem_of_getElem? (i := 8) rfl)), (hts (.selects RX1 yX1_hasField yX1_hasField) (List.mem_of_getElem? (i := 9) rfl))⟩ (mpreV (E5_ok aK aV) hK hE hA hw (sC1P isP1) 0 rfl rfl) rfl rfl hl.1 rfl (lv_room (Nat.le_of_ble_eq_true rfl)) dX5_gate_16 ⟨Nat.zero_le _, Nat.zero_le _⟩) hA hw (sC1P isP1) (fun u9 => sCP isP1 u9) (fun r10 u11 H locs h hw => ?_)
    obtain ⟨hu, h⟩ := h
    replace hu := hu.symm
    subst hu
    replace hw : Wd g.1 A s.heap ((wC g q) (C, N)) H locs := by first | exact hw | (simpa only [up_self] using hw)
    refine lv_if_eq (tgt := 32) hx hb dX5_gate_19 (by decide) (fun c87 => ?_) (fun c87 => ?_)
    · replace h := h.1 c87
      exact join5  _ _ _ h hw (lv_sub hl [0] rfl)
    · replace h := h.2 c87
      refine lv_iload_n hx hb dX5_gate_22 rfl (lv_at hl 3 rfl) ?_
      refine lv_iconst (v := (2 : Int32)) hx hb dX5_gate_23 (by decide) ?_
      refine lv_icmp_lt (tgt := 32) hx hb dX5_gate_24 (by decide) (fun c86 => ?_) (fun c86 => ?_)
      · replace h := h.1 c86
        exact join5  _ _ _ h hw (lv_sub hl [0] rfl)
      · replace h := h.2 c86
        refine lv_iload_n hx hb dX5_gate_27 rfl (lv_at hl 3 rfl) ?_
        refine lv_iconst (v := (3 : Int32)) hx hb dX5_gate_28 (by decide) ?_
        refine lv_icmp_le (tgt := 38) hx hb dX5_gate_29 (by decide) (fun c85 => ?_) (fun c85 => ?_)
        · replace h := h.1 c85
          refine lv_iload_n hx hb dX5_gate_38 rfl (lv_at hl 3 rfl) ?_
          refine lv_iconst (v := (2 : Int32)) hx hb dX5_gate_39 (by decide) ?_
          obtain ⟨J13, hJ14, h⟩ := h
          have join15 : ∀ (y12 : Int32) (H : Heap) (locs : List Loc) (ls : Array Slot), J13 y12 → Wd g.1 A s.heap ((wC g q) (C, N)) H locs → lv_has ls 9 [(0, .ref (q 0 0)), (1, .int a1), (2, .int a2), (3, .int a3)] → W p l e (rmm 22 674) s m args below meth c H locs 0 0 Q (F0 m 56 ls [.int y12]) := by
            intro y12 H locs ls h hw hl
            replace h := hJ14 y12 h
            refine lv_istore (lv' := [(4, .int y12), (0, .ref (q 0 0)), (1, .int a1), (2, .int a2), (3, .int a3)]) hx hb dX5_gate_56 hl (by decide) rfl (fun ls hl => ?_)
            refine lv_iload_n hx hb dX5_gate_58 rfl (lv_at hl 4 rfl) ?_
            refine lv_iconst (v := (3 : Int32)) hx hb dX5_gate_59 (by decide) ?_
            obtain ⟨J17, hJ18, h⟩ := h
            have join19 : ∀ (y16 : Int32) (H : Heap) (locs : List Loc) (ls : Array Slot), J17 y16 → Wd g.1 A s.heap ((wC g q) (C, N)) H locs → lv_has ls 9 [(0, .ref (q 0 0)), (1, .int a1), (2, .int a2), (3, .int a3), (4, .int y12)] → W p l e (rmm 22 674) s m args below meth c H locs 0 0 Q (F0 m 76 ls [.int y16]) := by
              intro y16 H locs ls h hw hl
              replace h := hJ18 y16 h
              refine lv_istore (lv' := [(5, .int y16), (0, .ref (q 0 0)), (1, .int a1), (2, .int a2), (3, .int a3), (4, .int y12)]) hx hb dX5_gate_76 hl (by decide) rfl (fun ls hl => ?_)
              refine lv_aload_n hx hb dX5_gate_78 rfl (lv_at hl 1 rfl) ?_
              refine O5_g8 hC hinX5 hK (hw.sub sC1O) (List.mem_of_getElem? (i := 2) rfl) dX5_gate_79 ?_
              refine lv_aload_n hx hb dX5_gate_82 rfl (lv_at hl 1 rfl) ?_
              refine O5_g0 hC hinX5 hK (hw.sub sC1O) (List.mem_of_getElem? (i := 1) rfl) dX5_gate_83 ?_
              refine P5_pg4 hC hinX1 hK (hw.sub (sC1P isP1)) hE.nFX5_119 dX5_gate_86 ?_
              refine lv_iload_n hx hb dX5_gate_89 rfl (lv_at hl 2 rfl) ?_
              obtain ⟨hi, h⟩ := h
              refine P5_pl4 hC hK (hw.sub (sC1P isP1)) hi dX5_gate_90 ?_
              refine lv_aload_n hx hb dX5_gate_91 rfl (lv_at hl 1 rfl) ?_
              refine O5_g0 hC hinX5 hK (hw.sub sC1O) (List.mem_of_getElem? (i := 1) rfl) dX5_gate_92 ?_
              refine lv_iload_n hx hb dX5_gate_95 rfl (lv_at hl 3 rfl) ?_
              refine mcalli (w1 := (fun u9 : Bun => wC g q (va_up C 1 u9, N))) (va_runVN (C := RX1) (As := [.int a2]) (rest := [.int (C 1 5 a1.toNatClampNeg), .ref (q 6 0)]) hC (kX1_earth l g aK aV (q 1) H.size (C 1) a2 _ h) ⟨va_cnB 1 hts gX5_gate_X1_earth_n77 rfl rfl rfl hE.nMX5_77 (hts (.initialized RX1) (List.mem_of_getElem? (i := 4) rfl)) (by decide +kernel) ⟨Nat.le_of_ble_eq_true rfl, Nat.le_of_ble_eq_true rfl⟩, (hts (.instanceMethod yX1_earth) (List.mem_of_getElem? (i := 23) rfl)), (hts (.selects RX1 yX1_earth yX1_earth) (List.mem_of_getElem? (i := 24) rfl))⟩ (mpreV (E5_ok aK aV) hK hE hA hw (sC1P isP1) 0 rfl rfl) rfl rfl hl.1 rfl (lv_room (Nat.le_of_ble_eq_true rfl)) dX5_gate_96 ⟨Nat.zero_le _, Nat.zero_le _⟩) hA hw (sC1P isP1) (fun u9 => sCP isP1 u9) (fun r20 u21 H locs h hw => ?_)
              obtain ⟨hu, h⟩ := h
              replace hu := hu.symm
              subst hu
              replace hw : Wd g.1 A s.heap ((wC g q) (C, N)) H locs := by first | exact hw | (simpa only [up_self] using hw)
              refine lv_aload_n hx hb dX5_gate_99 rfl (lv_at hl 1 rfl) ?_
              refine O5_g0 hC hinX5 hK (hw.sub sC1O) (List.mem_of_getElem? (i := 1) rfl) dX5_gate_100 ?_
              refine lv_iload_n hx hb dX5_gate_103 rfl (lv_at hl 3 rfl) ?_
              refine lv_iconst (v := (1 : Int32)) hx hb dX5_gate_104 (by decide) ?_
              refine mcalli (w1 := (fun u9 : Bun => wC g q (va_up C 1 u9, N))) (va_runVN (C := RX1) (As := [.int a2, .int (1 : Int32)]) (rest := [.int r20, .int (C 1 5 a1.toNatClampNeg), .ref (q 6 0)]) hC (kX1_mark l g aK aV (q 1) H.size (C 1) a2 (1 : Int32) _ h) ⟨va_cnB 2 hts gX5_gate_X1_mark_n83 rfl rfl rfl hE.nMX5_83 (hts (.initialized RX1) (List.mem_of_getElem? (i := 4) rfl)) (by decide +kernel) ⟨Nat.le_of_ble_eq_true rfl, Nat.le_of_ble_eq_true rfl⟩, (hts (.instanceMethod yX1_mark) (List.mem_of_getElem? (i := 19) rfl)), (hts (.selects RX1 yX1_mark yX1_mark) (List.mem_of_getElem? (i := 20) rfl))⟩ (mpreV (E5_ok aK aV) hK hE hA hw (sC1P isP1) 0 rfl rfl) rfl rfl hl.1 rfl (lv_room (Nat.le_of_ble_eq_true rfl)) dX5_gate_105 ⟨Nat.zero_le _, Nat.zero_le _⟩) hA hw (sC1P isP1) (fun u9 => sCP isP1 u9) (fun r22 u23 H locs h hw => ?_)
              obtain ⟨hu, h⟩ := h
              replace hu := hu.symm
              subst hu
              replace hw : Wd g.1 A s.heap ((wC g q) (C, N)) H locs := by first | exact hw | (simpa only [up_self] using hw)
              refine lv_iload hx hb dX5_gate_108 (lv_at hl 5 rfl) ?_
              refine lv_iload hx hb dX5_gate_110 (lv_at hl 0 rfl) ?_
              refine mcallv (w1 := (fun u9 : Bun => wC g q (va_up C 6 u9, N))) (va_runVN (C := RX0) (As := [.int (C 1 5 a1.toNatClampNeg), .int r20, .int r22, .int y12, .int y16]) (rest := []) hC (kX0_ask l g aK aV (q 6) H.size (C 6) (C 1 5 a1.toNatClampNeg) r20 r22 y12 y16 _ h) ⟨va_cnB 5 hts gX5_gate_X0_ask_n172 rfl rfl rfl hE.nMX5_172 (hts (.initialized RX0) (List.mem_of_getElem? (i := 29) rfl)) (by decide +kernel) ⟨Nat.le_of_ble_eq_true rfl, Nat.le_of_ble_eq_true rfl⟩, (hts (.instanceMethod yX0_ask) (List.mem_of_getElem? (i := 28) rfl)), (hts (.selects RX0 yX0_ask yX0_ask) (List.mem_of_getElem? (i := 30) rfl))⟩ (mpreV (E5_ok aK aV) hK hE hA hw (sC1F isF6) 0 rfl rfl) rfl rfl hl.1 rfl (lv_room (Nat.le_of_ble_eq_true rfl)) dX5_gate_112 ⟨Nat.zero_le _, Nat.zero_le _⟩) hA hw (sC1F isF6) (fun u9 => sCF isF6 u9) (fun u25 H locs h hw => ?_)
              obtain ⟨S27, rfl⟩ : ∃ z, z = u25 := ⟨_, rfl⟩
              obtain ⟨C26, eC26⟩ : ∃ z, z = va_up C 6 S27 := ⟨_, rfl⟩
              replace h := h C26 eC26
              replace hw : Wd g.1 A s.heap ((wC g q) (C26, N)) H locs := by rw [eC26]; exact hw
              refine lv_iload_n hx hb dX5_gate_115 rfl (lv_at hl 4 rfl) ?_
              refine lv_iconst (v := (2 : Int32)) hx hb dX5_gate_116 (by decide) ?_
              refine lv_icmp_ne (tgt := 130) hx hb dX5_gate_117 (by decide) (fun c78 => ?_) (fun c78 => ?_)
              · replace h := h.2 c78
                refine lv_aload_n hx hb dX5_gate_130 rfl (lv_at hl 1 rfl) ?_
                refine O5_g8 hC hinX5 hK (hw.sub sC1O) (List.mem_of_getElem? (i := 2) rfl) dX5_gate_131 ?_
                refine F5_fg10 hC hinX0 hK (hw.sub (sC1F isF6)) hE.nFX5_179 dX5_gate_134 ?_
                refine lv_astore (lv' := [(6, .ref (q 6 11)), (5, .int y16), (0, .ref (q 0 0)), (1, .int a1), (2, .int a2), (3, .int a3), (4, .int y12)]) hx hb dX5_gate_137 hl (by decide) rfl (fun ls hl => ?_)
                refine lv_iconst (v := (-1 : Int32)) hx hb dX5_gate_139 (by decide) ?_
                refine lv_istore (lv' := [(7, .int (-1 : Int32)), (6, .ref (q 6 11)), (5, .int y16), (0, .ref (q 0 0)), (1, .int a1), (2, .int a2), (3, .int a3), (4, .int y12)]) hx hb dX5_gate_140 hl (by decide) rfl (fun ls hl => ?_)
                refine lv_iconst (v := (0 : Int32)) hx hb dX5_gate_142 (by decide) ?_
                refine lv_istore (lv' := [(8, .int (0 : Int32)), (7, .int (-1 : Int32)), (6, .ref (q 6 11)), (5, .int y16), (0, .ref (q 0 0)), (1, .int a1), (2, .int a2), (3, .int a3), (4, .int y12)]) hx hb dX5_gate_143 hl (by decide) rfl (fun ls hl => ?_)
                refine h (fun z => match z with | (x28, x29) => ∀ (H : Heap) (locs : List Loc) (ls : Array Slot), Wd g.1 A s.heap ((wC g q) (C26, N)) H locs → lv_has ls 9 [(0, .ref (q 0 0)), (6, .ref (q 6 11)), (7, .int x28), (8, .int x29)] → W p l e (rmm 22 674) s m args below meth c H locs 0 0 Q (F0 m 145 ls [])) ?_ _ _ _ hw (lv_sub hl [4, 2, 1, 0] rfl)
                clear h hw hl
                rintro ⟨x28, x29⟩ h H locs ls hw hl
                refine lv_iload hx hb dX5_gate_145 (lv_at hl 3 rfl) ?_
                refine lv_bipush (v := (16 : Int32)) hx hb dX5_gate_147 (by decide) ?_
                refine lv_icmp_ge (tgt := 188) hx hb dX5_gate_149 (by decide) (fun c52 => ?_) (fun c52 => ?_)
                · replace h := h.1 c52
                  refine lv_iload hx hb dX5_gate_188 (lv_at hl 2 rfl) ?_
                  refine lv_if_ge (tgt := 201) hx hb dX5_gate_190 (by decide) (fun c40 => ?_) (fun c40 => ?_)
                  · replace h := h.1 c40
                    refine lv_iload hx hb dX5_gate_201 (lv_at hl 2 rfl) ?_
                    rw [hQ]
                    exact mreti (w := (wC g q)) (u := (C26, N)) hC hr hlocks hK hw ⟨rfl, h⟩ dX5_gate_203
                  · replace h := h.2 c40
                    refine lv_aload_n hx hb dX5_gate_193 rfl (lv_at hl 0 rfl) ?_
                    refine lv_iconst (v := (3 : Int32)) hx hb dX5_gate_194 (by decide) ?_
                    refine mcalli (w1 := (wC g q)) (va_runV (As := [.int (3 : Int32)]) (rest := []) hC (kX5_finding l g aK aV q H.size C26 N (3 : Int32) _ h) (cwV 1 hts gX5_gate_X5_finding rfl rfl rfl (by decide +kernel) ⟨Nat.le_of_ble_eq_true rfl, Nat.le_of_ble_eq_true rfl⟩) (mpreV (E5_ok aK aV) hK hE hA hw (Sub1.refl _) 0 rfl rfl) rfl rfl hl.1 rfl (lv_room (Nat.le_of_ble_eq_true rfl)) dX5_gate_195 ⟨Nat.zero_le _, Nat.zero_le _⟩) hA hw (Sub1.refl _) (fun u9 => Sub.whole (wC_map u9.1 u9.2)) (fun r36 u37 H locs h hw => ?_)
                    obtain ⟨C38, N39⟩ := u37
                    obtain ⟨hu, h⟩ := h
                    replace hu : N = N39 := hu.symm
                    subst hu
                    refine lv_goto (tgt := 203) hx hb dX5_gate_198 (by decide) ?_
                    rw [hQ]
                    exact mreti (w := (wC g q)) (u := (C38, N)) hC hr hlocks hK hw ⟨rfl, h⟩ dX5_gate_203
                · replace h := h.2 c52
                  refine lv_aload hx hb dX5_gate_152 (lv_at hl 1 rfl) ?_
                  refine lv_iload hx hb dX5_gate_154 (lv_at hl 3 rfl) ?_
                  obtain ⟨hi, h⟩ := h
                  refine F5_fl10 hC hK (hw.sub (sC1F isF6)) hi dX5_gate_156 ?_
                  refine lv_if_lt (tgt := 182) hx hb dX5_gate_157 (by decide) (fun c51 => ?_) (fun c51 => ?_)
                  · replace h := h.1 c51
                    obtain ⟨x41, ex41⟩ : ∃ y : Int32, y = x29 + (1 : Int32) := ⟨_, rfl⟩
                    refine lv_iinc (v := x41) (lv' := [(8, .int x41), (0, .ref (q 0 0)), (6, .ref (q 6 11)), (7, .int x28)]) hx hb dX5_gate_182 hl (k := 3) rfl (by rw [ex41]; rfl) (by decide) rfl (fun ls hl => ?_)
                    replace h := h x41 ex41
                    refine lv_goto (tgt := 145) hx hb dX5_gate_185 (by decide) ?_
                    exact h _ _ _ hw (lv_sub hl [1, 2, 3, 0] rfl)
                  · replace h := h.2 c51
                    refine lv_iload hx hb dX5_gate_160 (lv_at hl 2 rfl) ?_
                    refine lv_if_lt (tgt := 178) hx hb dX5_gate_162 (by decide) (fun c50 => ?_) (fun c50 => ?_)
                    · replace h := h.1 c50
                      refine lv_iload hx hb dX5_gate_178 (lv_at hl 3 rfl) ?_
                      refine lv_istore (lv' := [(7, .int x29), (0, .ref (q 0 0)), (6, .ref (q 6 11)), (8, .int x29)]) hx hb dX5_gate_180 hl (by decide) rfl (fun ls hl => ?_)
                      obtain ⟨x43, ex43⟩ : ∃ y : Int32, y = x29 + (1 : Int32) := ⟨_, rfl⟩
                      refine lv_iinc (v := x43) (lv' := [(8, .int x43), (7, .int x29), (0, .ref (q 0 0)), (6, .ref (q 6 11))]) hx hb dX5_gate_182 hl (k := 3) rfl (by rw [ex43]; rfl) (by decide) rfl (fun ls hl => ?_)
                      replace h := h x43 ex43
                      refine lv_goto (tgt := 145) hx hb dX5_gate_185 (by decide) ?_
                      exact h _ _ _ hw (lv_sub hl [2, 3, 1, 0] rfl)
                    · replace h := h.2 c50
                      refine lv_aload hx hb dX5_gate_165 (lv_at hl 1 rfl) ?_
                      refine lv_iload hx hb dX5_gate_167 (lv_at hl 3 rfl) ?_
                      obtain ⟨hi, h⟩ := h
                      refine F5_fl10 hC hK (hw.sub (sC1F isF6)) hi dX5_gate_169 ?_
                      refine lv_aload hx hb dX5_gate_170 (lv_at hl 1 rfl) ?_
                      refine lv_iload hx hb dX5_gate_172 (lv_at hl 2 rfl) ?_
                      obtain ⟨hi, h⟩ := h
                      refine F5_fl10 hC hK (hw.sub (sC1F isF6)) hi dX5_gate_174 ?_
                      refine lv_icmp_ge (tgt := 182) hx hb dX5_gate_175 (by decide) (fun c49 => ?_) (fun c49 => ?_)
                      · replace h := h.1 c49
                        obtain ⟨x45, ex45⟩ : ∃ y : Int32, y = x29 + (1 : Int32) := ⟨_, rfl⟩
                        refine lv_iinc (v := x45) (lv' := [(8, .int x45), (0, .ref (q 0 0)), (6, .ref (q 6 11)), (7, .int x28)]) hx hb dX5_gate_182 hl (k := 3) rfl (by rw [ex45]; rfl) (by decide) rfl (fun ls hl => ?_)
                        replace h := h x45 ex45
                        refine lv_goto (tgt := 145) hx hb dX5_gate_185 (by decide) ?_
                        exact h _ _ _ hw (lv_sub hl [1, 2, 3, 0] rfl)
                      · replace h := h.2 c49
                        refine lv_iload hx hb dX5_gate_178 (lv_at hl 3 rfl) ?_
                        refine lv_istore (lv' := [(7, .int x29), (0, .ref (q 0 0)), (6, .ref (q 6 11)), (8, .int x29)]) hx hb dX5_gate_180 hl (by decide) rfl (fun ls hl => ?_)
                        obtain ⟨x47, ex47⟩ : ∃ y : Int32, y = x29 + (1 : Int32) := ⟨_, rfl⟩
                        refine lv_iinc (v := x47) (lv' := [(8, .int x47), (7, .int x29), (0, .ref (q 0 0)), (6, .ref (q 6 11))]) hx hb dX5_gate_182 hl (k := 3) rfl (by rw [ex47]; rfl) (by decide) rfl (fun ls hl => ?_)
                        replace h := h x47 ex47
                        refine lv_goto (tgt := 145) hx hb dX5_gate_185 (by decide) ?_
                        exact h _ _ _ hw (lv_sub hl [2, 3, 1, 0] rfl)
              · replace h := h.1 c78
                refine lv_aload_n hx hb dX5_gate_120 rfl (lv_at hl 1 rfl) ?_
                refine O5_g8 hC hinX5 hK (hw.sub sC1O) (List.mem_of_getElem? (i := 2) rfl) dX5_gate_121 ?_
                refine F5_fg9 hC hinX0 hK (hw.sub (sC1F isF6)) hE.nFX5_176 dX5_gate_124 ?_
                refine lv_goto (tgt := 137) hx hb dX5_gate_127 (by decide) ?_
                refine lv_astore (lv' := [(6, .ref (q 6 10)), (5, .int y16), (0, .ref (q 0 0)), (1, .int a1), (2, .int a2), (3, .int a3), (4, .int y12)]) hx hb dX5_gate_137 hl (by decide) rfl (fun ls hl => ?_)
                refine lv_iconst (v := (-1 : Int32)) hx hb dX5_gate_139 (by decide) ?_
                refine lv_istore (lv' := [(7, .int (-1 : Int32)), (6, .ref (q 6 10)), (5, .int y16), (0, .ref (q 0 0)), (1, .int a1), (2, .int a2), (3, .int a3), (4, .int y12)]) hx hb dX5_gate_140 hl (by decide) rfl (fun ls hl => ?_)
                refine lv_iconst (v := (0 : Int32)) hx hb dX5_gate_142 (by decide) ?_
                refine lv_istore (lv' := [(8, .int (0 : Int32)), (7, .int (-1 : Int32)), (6, .ref (q 6 10)), (5, .int y16), (0, .ref (q 0 0)), (1, .int a1), (2, .int a2), (3, .int a3), (4, .int y12)]) hx hb dX5_gate_143 hl (by decide) rfl (fun ls hl => ?_)
                refine h (fun z => match z with | (x53, x54) => ∀ (H : Heap) (locs : List Loc) (ls : Array Slot), Wd g.1 A s.heap ((wC g q) (C26, N)) H locs → lv_has ls 9 [(0, .ref (q 0 0)), (6, .ref (q 6 10)), (7, .int x53), (8, .int x54)] → W p l e (rmm 22 674) s m args below meth c H locs 0 0 Q (F0 m 145 ls [])) ?_ _ _ _ hw (lv_sub hl [4, 2, 1, 0] rfl)
                clear h hw hl
                rintro ⟨x53, x54⟩ h H locs ls hw hl
                refine lv_iload hx hb dX5_gate_145 (lv_at hl 3 rfl) ?_
                refine lv_bipush (v := (16 : Int32)) hx hb dX5_gate_147 (by decide) ?_
                refine lv_icmp_ge (tgt := 188) hx hb dX5_gate_149 (by decide) (fun c77 => ?_) (fun c77 => ?_)
                · replace h := h.1 c77
                  refine lv_iload hx hb dX5_gate_188 (lv_at hl 2 rfl) ?_
                  refine lv_if_ge (tgt := 201) hx hb dX5_gate_190 (by decide) (fun c65 => ?_) (fun c65 => ?_)
                  · replace h := h.1 c65
                    refine lv_iload hx hb dX5_gate_201 (lv_at hl 2 rfl) ?_
                    rw [hQ]
                    exact mreti (w := (wC g q)) (u := (C26, N)) hC hr hlocks hK hw ⟨rfl, h⟩ dX5_gate_203
                  · replace h := h.2 c65
                    refine lv_aload_n hx hb dX5_gate_193 rfl (lv_at hl 0 rfl) ?_
                    refine lv_iconst (v := (3 : Int32)) hx hb dX5_gate_194 (by decide) ?_
                    refine mcalli (w1 := (wC g q)) (va_runV (As := [.int (3 : Int32)]) (rest := []) hC (kX5_finding l g aK aV q H.size C26 N (3 : Int32) _ h) (cwV 1 hts gX5_gate_X5_finding rfl rfl rfl (by decide +kernel) ⟨Nat.le_of_ble_eq_true rfl, Nat.le_of_ble_eq_true rfl⟩) (mpreV (E5_ok aK aV) hK hE hA hw (Sub1.refl _) 0 rfl rfl) rfl rfl hl.1 rfl (lv_room (Nat.le_of_ble_eq_true rfl)) dX5_gate_195 ⟨Nat.zero_le _, Nat.zero_le _⟩) hA hw (Sub1.refl _) (fun u9 => Sub.whole (wC_map u9.1 u9.2)) (fun r61 u62 H locs h hw => ?_)
                    obtain ⟨C63, N64⟩ := u62
                    obtain ⟨hu, h⟩ := h
                    replace hu : N = N64 := hu.symm
                    subst hu
                    refine lv_goto (tgt := 203) hx hb dX5_gate_198 (by decide) ?_
                    rw [hQ]
                    exact mreti (w := (wC g q)) (u := (C63, N)) hC hr hlocks hK hw ⟨rfl, h⟩ dX5_gate_203
                · replace h := h.2 c77
                  refine lv_aload hx hb dX5_gate_152 (lv_at hl 1 rfl) ?_
                  refine lv_iload hx hb dX5_gate_154 (lv_at hl 3 rfl) ?_
                  obtain ⟨hi, h⟩ := h
                  refine F5_fl9 hC hK (hw.sub (sC1F isF6)) hi dX5_gate_156 ?_
                  refine lv_if_lt (tgt := 182) hx hb dX5_gate_157 (by decide) (fun c76 => ?_) (fun c76 => ?_)
                  · replace h := h.1 c76
                    obtain ⟨x66, ex66⟩ : ∃ y : Int32, y = x54 + (1 : Int32) := ⟨_, rfl⟩
                    refine lv_iinc (v := x66) (lv' := [(8, .int x66), (0, .ref (q 0 0)), (6, .ref (q 6 10)), (7, .int x53)]) hx hb dX5_gate_182 hl (k := 3) rfl (by rw [ex66]; rfl) (by decide) rfl (fun ls hl => ?_)
                    replace h := h x66 ex66
                    refine lv_goto (tgt := 145) hx hb dX5_gate_185 (by decide) ?_
                    exact h _ _ _ hw (lv_sub hl [1, 2, 3, 0] rfl)
                  · replace h := h.2 c76
                    refine lv_iload hx hb dX5_gate_160 (lv_at hl 2 rfl) ?_
                    refine lv_if_lt (tgt := 178) hx hb dX5_gate_162 (by decide) (fun c75 => ?_) (fun c75 => ?_)
                    · replace h := h.1 c75
                      refine lv_iload hx hb dX5_gate_178 (lv_at hl 3 rfl) ?_
                      refine lv_istore (lv' := [(7, .int x54), (0, .ref (q 0 0)), (6, .ref (q 6 10)), (8, .int x54)]) hx hb dX5_gate_180 hl (by decide) rfl (fun ls hl => ?_)
                      obtain ⟨x68, ex68⟩ : ∃ y : Int32, y = x54 + (1 : Int32) := ⟨_, rfl⟩
                      refine lv_iinc (v := x68) (lv' := [(8, .int x68), (7, .int x54), (0, .ref (q 0 0)), (6, .ref (q 6 10))]) hx hb dX5_gate_182 hl (k := 3) rfl (by rw [ex68]; rfl) (by decide) rfl (fun ls hl => ?_)
                      replace h := h x68 ex68
                      refine lv_goto (tgt := 145) hx hb dX5_gate_185 (by decide) ?_
                      exact h _ _ _ hw (lv_sub hl [2, 3, 1, 0] rfl)
                    · replace h := h.2 c75
                      refine lv_aload hx hb dX5_gate_165 (lv_at hl 1 rfl) ?_
                      refine lv_iload hx hb dX5_gate_167 (lv_at hl 3 rfl) ?_
                      obtain ⟨hi, h⟩ := h
                      refine F5_fl9 hC hK (hw.sub (sC1F isF6)) hi dX5_gate_169 ?_
                      refine lv_aload hx hb dX5_gate_170 (lv_at hl 1 rfl) ?_
                      refine lv_iload hx hb dX5_gate_172 (lv_at hl 2 rfl) ?_
                      obtain ⟨hi, h⟩ := h
                      refine F5_fl9 hC hK (hw.sub (sC1F isF6)) hi dX5_gate_174 ?_
                      refine lv_icmp_ge (tgt := 182) hx hb dX5_gate_175 (by decide) (fun c74 => ?_) (fun c74 => ?_)
                      · replace h := h.1 c74
                        obtain ⟨x70, ex70⟩ : ∃ y : Int32, y = x54 + (1 : Int32) := ⟨_, rfl⟩
                        refine lv_iinc (v := x70) (lv' := [(8, .int x70), (0, .ref (q 0 0)), (6, .ref (q 6 10)), (7, .int x53)]) hx hb dX5_gate_182 hl (k := 3) rfl (by rw [ex70]; rfl) (by decide) rfl (fun ls hl => ?_)
                        replace h := h x70 ex70
                        refine lv_goto (tgt := 145) hx hb dX5_gate_185 (by decide) ?_
                        exact h _ _ _ hw (lv_sub hl [1, 2, 3, 0] rfl)
                      · replace h := h.2 c74
                        refine lv_iload hx hb dX5_gate_178 (lv_at hl 3 rfl) ?_
                        refine lv_istore (lv' := [(7, .int x54), (0, .ref (q 0 0)), (6, .ref (q 6 10)), (8, .int x54)]) hx hb dX5_gate_180 hl (by decide) rfl (fun ls hl => ?_)
                        obtain ⟨x72, ex72⟩ : ∃ y : Int32, y = x54 + (1 : Int32) := ⟨_, rfl⟩
                        refine lv_iinc (v := x72) (lv' := [(8, .int x72), (7, .int x54), (0, .ref (q 0 0)), (6, .ref (q 6 10))]) hx hb dX5_gate_182 hl (k := 3) rfl (by rw [ex72]; rfl) (by decide) rfl (fun ls hl => ?_)
                        replace h := h x72 ex72
                        refine lv_goto (tgt := 145) hx hb dX5_gate_185 (by decide) ?_
                        exact h _ _ _ hw (lv_sub hl [2, 3, 1, 0] rfl)
            refine lv_icmp_ne (tgt := 67) hx hb dX5_gate_60 (by decide) (fun c81 => ?_) (fun c81 => ?_)
            · replace h := h.2 c81
              refine lv_aload_n hx hb dX5_gate_67 rfl (lv_at hl 1 rfl) ?_
              refine O5_g0 hC hinX5 hK (hw.sub sC1O) (List.mem_of_getElem? (i := 1) rfl) dX5_gate_68 ?_
              refine lv_iload_n hx hb dX5_gate_71 rfl (lv_at hl 3 rfl) ?_
              refine lv_iconst (v := (3 : Int32)) hx hb dX5_gate_72 (by decide) ?_
              refine mcalli (w1 := (fun u9 : Bun => wC g q (va_up C 1 u9, N))) (va_runVN (C := RX1) (As := [.int a2, .int (3 : Int32)]) (rest := []) hC (kX1_mark l g aK aV (q 1) H.size (C 1) a2 (3 : Int32) _ h) ⟨va_cnB 2 hts gX5_gate_X1_mark_n83 rfl rfl rfl hE.nMX5_83 (hts (.initialized RX1) (List.mem_of_getElem? (i := 4) rfl)) (by decide +kernel) ⟨Nat.le_of_ble_eq_true rfl, Nat.le_of_ble_eq_true rfl⟩, (hts (.instanceMethod yX1_mark) (List.mem_of_getElem? (i := 19) rfl)), (hts (.selects RX1 yX1_mark yX1_mark) (List.mem_of_getElem? (i := 20) rfl))⟩ (mpreV (E5_ok aK aV) hK hE hA hw (sC1P isP1) 0 rfl rfl) rfl rfl hl.1 rfl (lv_room (Nat.le_of_ble_eq_true rfl)) dX5_gate_73 ⟨Nat.zero_le _, Nat.zero_le _⟩) hA hw (sC1P isP1) (fun u9 => sCP isP1 u9) (fun r79 u80 H locs h hw => ?_)
              obtain ⟨hu, h⟩ := h
              replace hu := hu.symm
              subst hu
              replace hw : Wd g.1 A s.heap ((wC g q) (C, N)) H locs := by first | exact hw | (simpa only [up_self] using hw)
              exact join19 r79 _ _ _ h hw (lv_sub hl [1, 2, 3, 4, 0] rfl)
            · replace h := h.1 c81
              refine lv_iconst (v := (-1 : Int32)) hx hb dX5_gate_63 (by decide) ?_
              refine lv_goto (tgt := 76) hx hb dX5_gate_64 (by decide) ?_
              exact join19 (-1 : Int32) _ _ _ h hw (lv_sub hl [1, 2, 3, 4, 0] rfl)
          refine lv_icmp_ne (tgt := 47) hx hb dX5_gate_40 (by decide) (fun c84 => ?_) (fun c84 => ?_)
          · replace h := h.2 c84
            refine lv_aload_n hx hb dX5_gate_47 rfl (lv_at hl 0 rfl) ?_
            refine O5_g0 hC hinX5 hK (hw.sub sC1O) (List.mem_of_getElem? (i := 1) rfl) dX5_gate_48 ?_
            refine lv_iload_n hx hb dX5_gate_51 rfl (lv_at hl 2 rfl) ?_
            refine lv_iconst (v := (2 : Int32)) hx hb dX5_gate_52 (by decide) ?_
            refine mcalli (w1 := (fun u9 : Bun => wC g q (va_up C 1 u9, N))) (va_runVN (C := RX1) (As := [.int a2, .int (2 : Int32)]) (rest := []) hC (kX1_mark l g aK aV (q 1) H.size (C 1) a2 (2 : Int32) _ h) ⟨va_cnB 2 hts gX5_gate_X1_mark_n83 rfl rfl rfl hE.nMX5_83 (hts (.initialized RX1) (List.mem_of_getElem? (i := 4) rfl)) (by decide +kernel) ⟨Nat.le_of_ble_eq_true rfl, Nat.le_of_ble_eq_true rfl⟩, (hts (.instanceMethod yX1_mark) (List.mem_of_getElem? (i := 19) rfl)), (hts (.selects RX1 yX1_mark yX1_mark) (List.mem_of_getElem? (i := 20) rfl))⟩ (mpreV (E5_ok aK aV) hK hE hA hw (sC1P isP1) 0 rfl rfl) rfl rfl hl.1 rfl (lv_room (Nat.le_of_ble_eq_true rfl)) dX5_gate_53 ⟨Nat.zero_le _, Nat.zero_le _⟩) hA hw (sC1P isP1) (fun u9 => sCP isP1 u9) (fun r82 u83 H locs h hw => ?_)
            obtain ⟨hu, h⟩ := h
            replace hu := hu.symm
            subst hu
            replace hw : Wd g.1 A s.heap ((wC g q) (C, N)) H locs := by first | exact hw | (simpa only [up_self] using hw)
            exact join15 r82 _ _ _ h hw (lv_sub hl [0, 1, 2, 3] rfl)
          · replace h := h.1 c84
            refine lv_iconst (v := (-1 : Int32)) hx hb dX5_gate_43 (by decide) ?_
            refine lv_goto (tgt := 56) hx hb dX5_gate_44 (by decide) ?_
            exact join15 (-1 : Int32) _ _ _ h hw (lv_sub hl [0, 1, 2, 3] rfl)
        · replace h := h.2 c85
          exact join5  _ _ _ h hw (lv_sub hl [0] rfl)
def wX5_whose (C : Nat → Bun) (N : Nat → Lon) (a1 : Int32) (post : Int32 → (Nat → Bun) → Prop) : Prop :=
  wX1_hasField (C 1) a1 (fun r1 => ((r1 = 0 → wX5_finding C N (0 : Int32) (fun r31 C33 => post r31 C33)) ∧ (¬ (r1 = 0) → wloop (σ := Int32 × Int32 × Int32 × (Nat → Bun)) (fun K7 z => match z with | (x3, x4, x5, C6) => (((C6 1 0 1) ≤ x5 → ((0 ≤ x4 → post x4 C6) ∧ (¬ (0 ≤ x4) → wX5_finding C6 N (3 : Int32) (fun r13 C15 => post r13 C15)))) ∧ (¬ ((C6 1 0 1) ≤ x5) → wX5_furrowsOf C6 N x5 a1 (fun b20 C22 => wX5_costOf C22 N x5 b20 (fun r23 => ((x3 ≤ r23 → ∀ x25 : Int32, x25 = x5 + (1 : Int32) → K7 (x3, x4, x25, C22)) ∧ (¬ (x3 ≤ r23) → ∀ x27 : Int32, x27 = x5 + (1 : Int32) → K7 (r23, x5, x27, C22)))))))) ((1000000 : Int32), (-1 : Int32), (0 : Int32), C))))
set_option maxRecDepth 100000 in
set_option maxHeartbeats 4000000 in
theorem kX5_whose (l : Launch) (g : Gl) (aK : Nat → Nat) (aV : Nat → Nat) (q : Nat → Nat → Nat) (sz : Nat) (C : Nat → Bun) (N : Nat → Lon) (a1 : Int32) (post : Int32 → (Nat → Bun) → Prop) (h : wX5_whose C N a1 post) : Met l yX5_whose wsX5_whose (rmm 23 698) (wPc g (E5 aK aV) ((wC g q) (C, N)) sz [.ref (q 0 0), .int a1]) (va_Qi (fun (r : Int32) (u : (Nat → Bun) × (Nat → Lon)) => u.2 = N ∧ post r u.1) (wB g (wC g q) (va_A ((wC g q) (C, N)) sz)) (va_A ((wC g q) (C, N)) sz)) 0 0 (va_A ((wC g q) (C, N)) sz) := by
  refine mstart (Qf := fun A => va_Qi (fun (r : Int32) (u : (Nat → Bun) × (Nat → Lon)) => u.2 = N ∧ post r u.1) (wB g (wC g q) A) A) (by decide) rfl (Nat.le_of_ble_eq_true rfl) ?_
  intro p e s m args below meth c A Q H locs ls hC hr hlocks hname hQ hA hK hE hw hl
  have hC : CallFix p m c cX5_whose 6 s args wsX5_whose RX5 := hC
  obtain ⟨hx, hb, -, hown, hts⟩ := id hC
  have hl : lv_has ls 6 [(0, .ref (q 0 0)), (1, .int a1)] := hl
  rw [wX5_whose] at h
  have hinX1 : ∀ w ∈ wsX10, w ∈ wsX5_whose := fun w hw9 => List.mem_cons_of_mem _ (List.mem_append_left _ (List.mem_append_right _ hw9))
  have hinX5 : ∀ w ∈ wsX50, w ∈ wsX5_whose := fun w hw9 => List.mem_cons_of_mem _ (List.mem_append_left _ (List.mem_append_left _ (List.mem_append_right _ hw9)))
  refine lv_aload_n hx hb dX5_whose_0 rfl (lv_at hl 0 rfl) ?_
  refine O5_g0 hC hinX5 hK (hw.sub sC1O) (List.mem_of_getElem? (i := 1) rfl) dX5_whose_1 ?_
  refine lv_iload_n hx hb dX5_whose_4 rfl (lv_at hl 1 rfl) ?_
  refine mcalli (w1 := (fun u9 : Bun => wC g q (va_up C 1 u9, N))) (va_runVN (C := RX1) (As := [.int a1]) (rest := []) hC (kX1_hasField l g aK aV (q 1) H.size (C 1) a1 _ h) ⟨va_cnB 1 hts gX5_whose_X1_hasField_n73 rfl rfl rfl hE.nMX5_73 (hts (.initialized RX1) (List.mem_of_getElem? (i := 4) rfl)) (by decide +kernel) ⟨Nat.le_of_ble_eq_true rfl, Nat.le_of_ble_eq_true rfl⟩, (hts (.instanceMethod yX1_hasField) (List.mem_of_getElem? (i := 3) rfl)), (hts (.selects RX1 yX1_hasField yX1_hasField) (List.mem_of_getElem? (i := 5) rfl))⟩ (mpreV (E5_ok aK aV) hK hE hA hw (sC1P isP1) 0 rfl rfl) rfl rfl hl.1 rfl (lv_room (Nat.le_of_ble_eq_true rfl)) dX5_whose_5 ⟨Nat.zero_le _, Nat.zero_le _⟩) hA hw (sC1P isP1) (fun u9 => sCP isP1 u9) (fun r1 u2 H locs h hw => ?_)
  obtain ⟨hu, h⟩ := h
  replace hu := hu.symm
  subst hu
  replace hw : Wd g.1 A s.heap ((wC g q) (C, N)) H locs := by first | exact hw | (simpa only [up_self] using hw)
  refine lv_if_ne (tgt := 17) hx hb dX5_whose_8 (by decide) (fun c35 => ?_) (fun c35 => ?_)
  · replace h := h.2 c35
    refine lv_ldc (v := (1000000 : Int32)) hx hb hown (hts (.constant RX5 168 (1000000)) (List.mem_of_getElem? (i := 2) rfl)) dX5_whose_17 ?_
    refine lv_istore_n (lv' := [(2, .int (1000000 : Int32)), (0, .ref (q 0 0)), (1, .int a1)]) hx hb dX5_whose_19 rfl hl (by decide) rfl (fun ls hl => ?_)
    refine lv_iconst (v := (-1 : Int32)) hx hb dX5_whose_20 (by decide) ?_
    refine lv_istore_n (lv' := [(3, .int (-1 : Int32)), (2, .int (1000000 : Int32)), (0, .ref (q 0 0)), (1, .int a1)]) hx hb dX5_whose_21 rfl hl (by decide) rfl (fun ls hl => ?_)
    refine lv_iconst (v := (0 : Int32)) hx hb dX5_whose_22 (by decide) ?_
    refine lv_istore (lv' := [(4, .int (0 : Int32)), (3, .int (-1 : Int32)), (2, .int (1000000 : Int32)), (0, .ref (q 0 0)), (1, .int a1)]) hx hb dX5_whose_23 hl (by decide) rfl (fun ls hl => ?_)
    refine h (fun z => match z with | (x3, x4, x5, C6) => ∀ (H : Heap) (locs : List Loc) (ls : Array Slot), Wd g.1 A s.heap ((wC g q) (C6, N)) H locs → lv_has ls 6 [(0, .ref (q 0 0)), (1, .int a1), (2, .int x3), (3, .int x4), (4, .int x5)] → W p l e (rmm 23 698) s m args below meth c H locs 0 0 Q (F0 m 25 ls [])) ?_ _ _ _ hw (lv_sub hl [3, 4, 2, 1, 0] rfl)
    clear h hw hl
    rintro ⟨x3, x4, x5, C6⟩ h H locs ls hw hl
    refine lv_iload hx hb dX5_whose_25 (lv_at hl 4 rfl) ?_
    refine lv_aload_n hx hb dX5_whose_27 rfl (lv_at hl 0 rfl) ?_
    refine O5_g0 hC hinX5 hK (hw.sub sC1O) (List.mem_of_getElem? (i := 1) rfl) dX5_whose_28 ?_
    refine P5_pg1 hC hinX1 hK (hw.sub (sC1P isP1)) hE.nFX5_110 dX5_whose_31 ?_
    refine lv_icmp_ge (tgt := 70) hx hb dX5_whose_34 (by decide) (fun c30 => ?_) (fun c30 => ?_)
    · replace h := h.1 c30
      refine lv_iload_n hx hb dX5_whose_70 rfl (lv_at hl 3 rfl) ?_
      refine lv_if_ge (tgt := 82) hx hb dX5_whose_71 (by decide) (fun c17 => ?_) (fun c17 => ?_)
      · replace h := h.1 c17
        refine lv_iload_n hx hb dX5_whose_82 rfl (lv_at hl 3 rfl) ?_
        rw [hQ]
        exact mreti (w := (wC g q)) (u := (C6, N)) hC hr hlocks hK hw ⟨rfl, h⟩ dX5_whose_83
      · replace h := h.2 c17
        refine lv_aload_n hx hb dX5_whose_74 rfl (lv_at hl 0 rfl) ?_
        refine lv_iconst (v := (3 : Int32)) hx hb dX5_whose_75 (by decide) ?_
        refine mcalli (w1 := (wC g q)) (va_runV (As := [.int (3 : Int32)]) (rest := []) hC (kX5_finding l g aK aV q H.size C6 N (3 : Int32) _ h) (cwV 1 hts gX5_whose_X5_finding rfl rfl rfl (by decide +kernel) ⟨Nat.le_of_ble_eq_true rfl, Nat.le_of_ble_eq_true rfl⟩) (mpreV (E5_ok aK aV) hK hE hA hw (Sub1.refl _) 0 rfl rfl) rfl rfl hl.1 rfl (lv_room (Nat.le_of_ble_eq_true rfl)) dX5_whose_76 ⟨Nat.zero_le _, Nat.zero_le _⟩) hA hw (Sub1.refl _) (fun u9 => Sub.whole (wC_map u9.1 u9.2)) (fun r13 u14 H locs h hw => ?_)
        obtain ⟨C15, N16⟩ := u14
        obtain ⟨hu, h⟩ := h
        replace hu : N = N16 := hu.symm
        subst hu
        refine lv_goto (tgt := 83) hx hb dX5_whose_79 (by decide) ?_
        rw [hQ]
        exact mreti (w := (wC g q)) (u := (C15, N)) hC hr hlocks hK hw ⟨rfl, h⟩ dX5_whose_83
    · replace h := h.2 c30
      refine lv_aload_n hx hb dX5_whose_37 rfl (lv_at hl 0 rfl) ?_
      refine lv_iload hx hb dX5_whose_38 (lv_at hl 4 rfl) ?_
      refine lv_aload_n hx hb dX5_whose_40 rfl (lv_at hl 0 rfl) ?_
      refine lv_iload hx hb dX5_whose_41 (lv_at hl 4 rfl) ?_
      refine lv_iload_n hx hb dX5_whose_43 rfl (lv_at hl 1 rfl) ?_
      refine mcallr (va_runV (As := [.int x5, .int a1]) (rest := [.int x5, .ref (q 0 0)]) hC (kX5_furrowsOf l g aK aV q H.size C6 N x5 a1 _ h) (cwV 2 hts gX5_whose_X5_furrowsOf rfl rfl rfl (by decide +kernel) ⟨Nat.le_of_ble_eq_true rfl, Nat.le_of_ble_eq_true rfl⟩) (mpreV (E5_ok aK aV) hK hE hA hw (Sub1.refl _) 0 rfl rfl) rfl rfl hl.1 rfl (lv_room (Nat.le_of_ble_eq_true rfl)) dX5_whose_44 ⟨Nat.zero_le _, Nat.zero_le _⟩) hA hw (fun b20 C22 H locs hb21 h hw => ?_)
      refine mcalli (w1 := (wC g q)) (va_runV (As := [.int x5, .ref (q b20 0)]) (rest := []) hC (kX5_costOf l g aK aV q H.size C22 N x5 b20 _ h) (cwV 2 hts gX5_whose_X5_costOf rfl rfl rfl (by decide +kernel) ⟨Nat.le_of_ble_eq_true rfl, Nat.le_of_ble_eq_true rfl⟩) (mpreV (E5_ok aK aV) hK hE hA hw (Sub1.refl _) 0 rfl rfl) rfl rfl hl.1 rfl (lv_room (Nat.le_of_ble_eq_true rfl)) dX5_whose_47 ⟨Nat.zero_le _, Nat.zero_le _⟩) hA hw (Sub1.refl _) (fun u9 => Sub.whole (wC_map u9.1 u9.2)) (fun r23 u24 H locs h hw => ?_)
      obtain ⟨hu, h⟩ := h
      replace hu := hu.symm
      subst hu
      refine lv_istore (lv' := [(5, .int r23), (0, .ref (q 0 0)), (1, .int a1), (2, .int x3), (3, .int x4), (4, .int x5)]) hx hb dX5_whose_50 hl (by decide) rfl (fun ls hl => ?_)
      refine lv_iload hx hb dX5_whose_52 (lv_at hl 0 rfl) ?_
      refine lv_iload_n hx hb dX5_whose_54 rfl (lv_at hl 3 rfl) ?_
      refine lv_icmp_ge (tgt := 64) hx hb dX5_whose_55 (by decide) (fun c29 => ?_) (fun c29 => ?_)
      · replace h := h.1 c29
        obtain ⟨x25, ex25⟩ : ∃ y : Int32, y = x5 + (1 : Int32) := ⟨_, rfl⟩
        refine lv_iinc (v := x25) (lv' := [(4, .int x25), (5, .int r23), (0, .ref (q 0 0)), (1, .int a1), (2, .int x3), (3, .int x4)]) hx hb dX5_whose_64 hl (k := 5) rfl (by rw [ex25]; rfl) (by decide) rfl (fun ls hl => ?_)
        replace h := h x25 ex25
        refine lv_goto (tgt := 25) hx hb dX5_whose_67 (by decide) ?_
        exact h _ _ _ hw (lv_sub hl [2, 3, 4, 5, 0] rfl)
      · replace h := h.2 c29
        refine lv_iload hx hb dX5_whose_58 (lv_at hl 0 rfl) ?_
        refine lv_istore_n (lv' := [(2, .int r23), (5, .int r23), (0, .ref (q 0 0)), (1, .int a1), (3, .int x4), (4, .int x5)]) hx hb dX5_whose_60 rfl hl (by decide) rfl (fun ls hl => ?_)
        refine lv_iload hx hb dX5_whose_61 (lv_at hl 5 rfl) ?_
        refine lv_istore_n (lv' := [(3, .int x5), (2, .int r23), (5, .int r23), (0, .ref (q 0 0)), (1, .int a1), (4, .int x5)]) hx hb dX5_whose_63 rfl hl (by decide) rfl (fun ls hl => ?_)
        obtain ⟨x27, ex27⟩ : ∃ y : Int32, y = x5 + (1 : Int32) := ⟨_, rfl⟩
        refine lv_iinc (v := x27) (lv' := [(4, .int x27), (3, .int x5), (2, .int r23), (5, .int r23), (0, .ref (q 0 0)), (1, .int a1)]) hx hb dX5_whose_64 hl (k := 5) rfl (by rw [ex27]; rfl) (by decide) rfl (fun ls hl => ?_)
        replace h := h x27 ex27
        refine lv_goto (tgt := 25) hx hb dX5_whose_67 (by decide) ?_
        exact h _ _ _ hw (lv_sub hl [4, 5, 2, 1, 0] rfl)
  · replace h := h.1 c35
    refine lv_aload_n hx hb dX5_whose_11 rfl (lv_at hl 0 rfl) ?_
    refine lv_iconst (v := (0 : Int32)) hx hb dX5_whose_12 (by decide) ?_
    refine mcalli (w1 := (wC g q)) (va_runV (As := [.int (0 : Int32)]) (rest := []) hC (kX5_finding l g aK aV q H.size C N (0 : Int32) _ h) (cwV 1 hts gX5_whose_X5_finding rfl rfl rfl (by decide +kernel) ⟨Nat.le_of_ble_eq_true rfl, Nat.le_of_ble_eq_true rfl⟩) (mpreV (E5_ok aK aV) hK hE hA hw (Sub1.refl _) 0 rfl rfl) rfl rfl hl.1 rfl (lv_room (Nat.le_of_ble_eq_true rfl)) dX5_whose_13 ⟨Nat.zero_le _, Nat.zero_le _⟩) hA hw (Sub1.refl _) (fun u9 => Sub.whole (wC_map u9.1 u9.2)) (fun r31 u32 H locs h hw => ?_)
    obtain ⟨C33, N34⟩ := u32
    obtain ⟨hu, h⟩ := h
    replace hu : N = N34 := hu.symm
    subst hu
    rw [hQ]
    exact mreti (w := (wC g q)) (u := (C33, N)) hC hr hlocks hK hw ⟨rfl, h⟩ dX5_whose_16
def wX5_goThrough (C : Nat → Bun) (N : Nat → Lon) (a1 : Int32) (post : (Nat → Bun) → Prop) : Prop :=
  ∀ C1 : Nat → Bun, C1 = va_up C 5 (up (C 5) 0 0 (C 1 0 0)) → wloop (σ := Int32 × (Nat → Bun)) (fun K4 z => match z with | (x2, C3) => (((C3 1 0 0) ≤ x2 → wX2_search (C3 5)  (fun S13 => ∀ C12 : Nat → Bun, C12 = va_up C3 5 S13 → post C12)) ∧ (¬ ((C3 1 0 0) ≤ x2) → wX5_furrowsOf C3 N a1 x2 (fun b16 C18 => wX5_costOf C18 N a1 b16 (fun r19 => vp_in x2 6 ∧ ∀ C21 : Nat → Bun, C21 = va_up C18 5 (up (C18 5) 2 x2.toNatClampNeg r19) → wX1_mark (C21 1) x2 (4 : Int32) (fun r22 => vp_in x2 6 ∧ ∀ C24 : Nat → Bun, C24 = va_up C21 5 (up (C21 5) 3 x2.toNatClampNeg r22) → wX1_mark (C24 1) x2 (5 : Int32) (fun r25 => vp_in x2 6 ∧ ∀ C27 : Nat → Bun, C27 = va_up C24 5 (up (C24 5) 4 x2.toNatClampNeg r25) → vp_in x2 6 ∧ vp_in x2 6 ∧ ∀ C28 : Nat → Bun, C28 = va_up C27 5 (up (C27 5) 5 x2.toNatClampNeg (C27 1 4 x2.toNatClampNeg)) → ∀ x29 : Int32, x29 = x2 + (1 : Int32) → K4 (x29, C28)))))))) ((0 : Int32), C1)
set_option maxRecDepth 100000 in
set_option maxHeartbeats 4000000 in
theorem kX5_goThrough (l : Launch) (g : Gl) (aK : Nat → Nat) (aV : Nat → Nat) (q : Nat → Nat → Nat) (sz : Nat) (C : Nat → Bun) (N : Nat → Lon) (a1 : Int32) (post : (Nat → Bun) → Prop) (h : wX5_goThrough C N a1 post) : Met l yX5_goThrough wsX5_goThrough (rmm 23 698) (wPc g (E5 aK aV) ((wC g q) (C, N)) sz [.ref (q 0 0), .int a1]) (va_Qv (fun (u : (Nat → Bun) × (Nat → Lon)) => u.2 = N ∧ post u.1) (wB g (wC g q) (va_A ((wC g q) (C, N)) sz)) (va_A ((wC g q) (C, N)) sz)) 0 0 (va_A ((wC g q) (C, N)) sz) := by
  refine mstart (Qf := fun A => va_Qv (fun (u : (Nat → Bun) × (Nat → Lon)) => u.2 = N ∧ post u.1) (wB g (wC g q) A) A) (by decide) rfl (Nat.le_of_ble_eq_true rfl) ?_
  intro p e s m args below meth c A Q H locs ls hC hr hlocks hname hQ hA hK hE hw hl
  have hC : CallFix p m c cX5_goThrough 3 s args wsX5_goThrough RX5 := hC
  obtain ⟨hx, hb, -, hown, hts⟩ := id hC
  have hl : lv_has ls 3 [(0, .ref (q 0 0)), (1, .int a1)] := hl
  rw [wX5_goThrough] at h
  have hinX1 : ∀ w ∈ wsX10, w ∈ wsX5_goThrough := fun w hw9 => List.mem_cons_of_mem _ (List.mem_append_left _ (List.mem_append_left _ (List.mem_append_right _ hw9)))
  have hinX2 : ∀ w ∈ wsX20, w ∈ wsX5_goThrough := fun w hw9 => List.mem_cons_of_mem _ (List.mem_append_left _ (List.mem_append_right _ hw9))
  have hinX5 : ∀ w ∈ wsX50, w ∈ wsX5_goThrough := fun w hw9 => List.mem_cons_of_mem _ (List.mem_append_left _ (List.mem_append_left _ (List.mem_append_left _ (List.mem_append_right _ hw9))))
  refine lv_aload_n hx hb dX5_goThrough_0 rfl (lv_at hl 0 rfl) ?_
  refine O5_g9 hC hinX5 hK (hw.sub sC1O) (List.mem_of_getElem? (i := 1) rfl) dX5_goThrough_1 ?_
  refine lv_aload_n hx hb dX5_goThrough_4 rfl (lv_at hl 0 rfl) ?_
  refine O5_g0 hC hinX5 hK (hw.sub sC1O) (List.mem_of_getElem? (i := 2) rfl) dX5_goThrough_5 ?_
  refine P5_pg0 hC hinX1 hK (hw.sub (sC1P isP1)) hE.nFX5_61 dX5_goThrough_8 ?_
  refine C_p5_0 hC hinX2 hK hw hE.nFX5_291 dX5_goThrough_11 (fun C1 H locs eC1 hw => ?_)
  replace h := h C1 eC1
  refine lv_iconst (v := (0 : Int32)) hx hb dX5_goThrough_14 (by decide) ?_
  refine lv_istore_n (lv' := [(2, .int (0 : Int32)), (0, .ref (q 0 0)), (1, .int a1)]) hx hb dX5_goThrough_15 rfl hl (by decide) rfl (fun ls hl => ?_)
  refine h (fun z => match z with | (x2, C3) => ∀ (H : Heap) (locs : List Loc) (ls : Array Slot), Wd g.1 A s.heap ((wC g q) (C3, N)) H locs → lv_has ls 3 [(0, .ref (q 0 0)), (1, .int a1), (2, .int x2)] → W p l e (rmm 23 698) s m args below meth c H locs 0 0 Q (F0 m 16 ls [])) ?_ _ _ _ hw (lv_sub hl [1, 2, 0] rfl)
  clear h hw hl
  rintro ⟨x2, C3⟩ h H locs ls hw hl
  refine lv_iload_n hx hb dX5_goThrough_16 rfl (lv_at hl 2 rfl) ?_
  refine lv_aload_n hx hb dX5_goThrough_17 rfl (lv_at hl 0 rfl) ?_
  refine O5_g0 hC hinX5 hK (hw.sub sC1O) (List.mem_of_getElem? (i := 2) rfl) dX5_goThrough_18 ?_
  refine P5_pg0 hC hinX1 hK (hw.sub (sC1P isP1)) hE.nFX5_61 dX5_goThrough_21 ?_
  refine lv_icmp_ge (tgt := 107) hx hb dX5_goThrough_24 (by decide) (fun c31 => ?_) (fun c31 => ?_)
  · replace h := h.1 c31
    refine lv_aload_n hx hb dX5_goThrough_107 rfl (lv_at hl 0 rfl) ?_
    refine O5_g9 hC hinX5 hK (hw.sub sC1O) (List.mem_of_getElem? (i := 1) rfl) dX5_goThrough_108 ?_
    refine mcallv (w1 := (fun u9 : Bun => wC g q (va_up C3 5 u9, N))) (va_runVN (C := RX2) (As := []) (rest := []) hC (kX2_search l g aK aV (q 5) H.size (C3 5)  _ h) ⟨va_cnB 0 hts gX5_goThrough_X2_search_n208 rfl rfl rfl hE.nMX5_208 (hts (.initialized RX2) (List.mem_of_getElem? (i := 112) rfl)) (by decide +kernel) ⟨Nat.le_of_ble_eq_true rfl, Nat.le_of_ble_eq_true rfl⟩, (hts (.instanceMethod yX2_search) (List.mem_of_getElem? (i := 111) rfl)), (hts (.selects RX2 yX2_search yX2_search) (List.mem_of_getElem? (i := 113) rfl))⟩ (mpreV (E5_ok aK aV) hK hE hA hw sC1R 0 rfl rfl) rfl rfl hl.1 rfl (lv_room (Nat.le_of_ble_eq_true rfl)) dX5_goThrough_111 ⟨Nat.zero_le _, Nat.zero_le _⟩) hA hw sC1R (fun u9 => sCR u9) (fun u11 H locs h hw => ?_)
    obtain ⟨S13, rfl⟩ : ∃ z, z = u11 := ⟨_, rfl⟩
    obtain ⟨C12, eC12⟩ : ∃ z, z = va_up C3 5 S13 := ⟨_, rfl⟩
    replace h := h C12 eC12
    replace hw : Wd g.1 A s.heap ((wC g q) (C12, N)) H locs := by rw [eC12]; exact hw
    rw [hQ]
    exact mretv (w := (wC g q)) (u := (C12, N)) hC hr hlocks hK hw ⟨rfl, h⟩ dX5_goThrough_114
  · replace h := h.2 c31
    refine lv_aload_n hx hb dX5_goThrough_27 rfl (lv_at hl 0 rfl) ?_
    refine O5_g9 hC hinX5 hK (hw.sub sC1O) (List.mem_of_getElem? (i := 1) rfl) dX5_goThrough_28 ?_
    refine R5_rg1 hC hinX2 hK (hw.sub sC1R) hE.nFX5_292 dX5_goThrough_31 ?_
    refine lv_iload_n hx hb dX5_goThrough_34 rfl (lv_at hl 2 rfl) ?_
    refine lv_aload_n hx hb dX5_goThrough_35 rfl (lv_at hl 0 rfl) ?_
    refine lv_iload_n hx hb dX5_goThrough_36 rfl (lv_at hl 1 rfl) ?_
    refine lv_aload_n hx hb dX5_goThrough_37 rfl (lv_at hl 0 rfl) ?_
    refine lv_iload_n hx hb dX5_goThrough_38 rfl (lv_at hl 1 rfl) ?_
    refine lv_iload_n hx hb dX5_goThrough_39 rfl (lv_at hl 2 rfl) ?_
    refine mcallr (va_runV (As := [.int a1, .int x2]) (rest := [.int a1, .ref (q 0 0), .int x2, .ref (q 5 2)]) hC (kX5_furrowsOf l g aK aV q H.size C3 N a1 x2 _ h) (cwV 2 hts gX5_goThrough_X5_furrowsOf rfl rfl rfl (by decide +kernel) ⟨Nat.le_of_ble_eq_true rfl, Nat.le_of_ble_eq_true rfl⟩) (mpreV (E5_ok aK aV) hK hE hA hw (Sub1.refl _) 0 rfl rfl) rfl rfl hl.1 rfl (lv_room (Nat.le_of_ble_eq_true rfl)) dX5_goThrough_40 ⟨Nat.zero_le _, Nat.zero_le _⟩) hA hw (fun b16 C18 H locs hb17 h hw => ?_)
    refine mcalli (w1 := (wC g q)) (va_runV (As := [.int a1, .ref (q b16 0)]) (rest := [.int x2, .ref (q 5 2)]) hC (kX5_costOf l g aK aV q H.size C18 N a1 b16 _ h) (cwV 2 hts gX5_goThrough_X5_costOf rfl rfl rfl (by decide +kernel) ⟨Nat.le_of_ble_eq_true rfl, Nat.le_of_ble_eq_true rfl⟩) (mpreV (E5_ok aK aV) hK hE hA hw (Sub1.refl _) 0 rfl rfl) rfl rfl hl.1 rfl (lv_room (Nat.le_of_ble_eq_true rfl)) dX5_goThrough_43 ⟨Nat.zero_le _, Nat.zero_le _⟩) hA hw (Sub1.refl _) (fun u9 => Sub.whole (wC_map u9.1 u9.2)) (fun r19 u20 H locs h hw => ?_)
    obtain ⟨hu, h⟩ := h
    replace hu := hu.symm
    subst hu
    obtain ⟨hi, h⟩ := h
    refine C_s5_1 hC hK hw hi dX5_goThrough_46 (fun C21 H locs eC21 hw => ?_)
    replace h := h C21 eC21
    refine lv_aload_n hx hb dX5_goThrough_47 rfl (lv_at hl 0 rfl) ?_
    refine O5_g9 hC hinX5 hK (hw.sub sC1O) (List.mem_of_getElem? (i := 1) rfl) dX5_goThrough_48 ?_
    refine R5_rg2 hC hinX2 hK (hw.sub sC1R) hE.nFX5_295 dX5_goThrough_51 ?_
    refine lv_iload_n hx hb dX5_goThrough_54 rfl (lv_at hl 2 rfl) ?_
    refine lv_aload_n hx hb dX5_goThrough_55 rfl (lv_at hl 0 rfl) ?_
    refine O5_g0 hC hinX5 hK (hw.sub sC1O) (List.mem_of_getElem? (i := 2) rfl) dX5_goThrough_56 ?_
    refine lv_iload_n hx hb dX5_goThrough_59 rfl (lv_at hl 2 rfl) ?_
    refine lv_iconst (v := (4 : Int32)) hx hb dX5_goThrough_60 (by decide) ?_
    refine mcalli (w1 := (fun u9 : Bun => wC g q (va_up C21 1 u9, N))) (va_runVN (C := RX1) (As := [.int x2, .int (4 : Int32)]) (rest := [.int x2, .ref (q 5 3)]) hC (kX1_mark l g aK aV (q 1) H.size (C21 1) x2 (4 : Int32) _ h) ⟨va_cnB 2 hts gX5_goThrough_X1_mark_n83 rfl rfl rfl hE.nMX5_83 (hts (.initialized RX1) (List.mem_of_getElem? (i := 10) rfl)) (by decide +kernel) ⟨Nat.le_of_ble_eq_true rfl, Nat.le_of_ble_eq_true rfl⟩, (hts (.instanceMethod yX1_mark) (List.mem_of_getElem? (i := 15) rfl)), (hts (.selects RX1 yX1_mark yX1_mark) (List.mem_of_getElem? (i := 16) rfl))⟩ (mpreV (E5_ok aK aV) hK hE hA hw (sC1P isP1) 0 rfl rfl) rfl rfl hl.1 rfl (lv_room (Nat.le_of_ble_eq_true rfl)) dX5_goThrough_61 ⟨Nat.zero_le _, Nat.zero_le _⟩) hA hw (sC1P isP1) (fun u9 => sCP isP1 u9) (fun r22 u23 H locs h hw => ?_)
    obtain ⟨hu, h⟩ := h
    replace hu := hu.symm
    subst hu
    replace hw : Wd g.1 A s.heap ((wC g q) (C21, N)) H locs := by first | exact hw | (simpa only [up_self] using hw)
    obtain ⟨hi, h⟩ := h
    refine C_s5_2 hC hK hw hi dX5_goThrough_64 (fun C24 H locs eC24 hw => ?_)
    replace h := h C24 eC24
    refine lv_aload_n hx hb dX5_goThrough_65 rfl (lv_at hl 0 rfl) ?_
    refine O5_g9 hC hinX5 hK (hw.sub sC1O) (List.mem_of_getElem? (i := 1) rfl) dX5_goThrough_66 ?_
    refine R5_rg3 hC hinX2 hK (hw.sub sC1R) hE.nFX5_298 dX5_goThrough_69 ?_
    refine lv_iload_n hx hb dX5_goThrough_72 rfl (lv_at hl 2 rfl) ?_
    refine lv_aload_n hx hb dX5_goThrough_73 rfl (lv_at hl 0 rfl) ?_
    refine O5_g0 hC hinX5 hK (hw.sub sC1O) (List.mem_of_getElem? (i := 2) rfl) dX5_goThrough_74 ?_
    refine lv_iload_n hx hb dX5_goThrough_77 rfl (lv_at hl 2 rfl) ?_
    refine lv_iconst (v := (5 : Int32)) hx hb dX5_goThrough_78 (by decide) ?_
    refine mcalli (w1 := (fun u9 : Bun => wC g q (va_up C24 1 u9, N))) (va_runVN (C := RX1) (As := [.int x2, .int (5 : Int32)]) (rest := [.int x2, .ref (q 5 4)]) hC (kX1_mark l g aK aV (q 1) H.size (C24 1) x2 (5 : Int32) _ h) ⟨va_cnB 2 hts gX5_goThrough_X1_mark_n83 rfl rfl rfl hE.nMX5_83 (hts (.initialized RX1) (List.mem_of_getElem? (i := 10) rfl)) (by decide +kernel) ⟨Nat.le_of_ble_eq_true rfl, Nat.le_of_ble_eq_true rfl⟩, (hts (.instanceMethod yX1_mark) (List.mem_of_getElem? (i := 15) rfl)), (hts (.selects RX1 yX1_mark yX1_mark) (List.mem_of_getElem? (i := 16) rfl))⟩ (mpreV (E5_ok aK aV) hK hE hA hw (sC1P isP1) 0 rfl rfl) rfl rfl hl.1 rfl (lv_room (Nat.le_of_ble_eq_true rfl)) dX5_goThrough_79 ⟨Nat.zero_le _, Nat.zero_le _⟩) hA hw (sC1P isP1) (fun u9 => sCP isP1 u9) (fun r25 u26 H locs h hw => ?_)
    obtain ⟨hu, h⟩ := h
    replace hu := hu.symm
    subst hu
    replace hw : Wd g.1 A s.heap ((wC g q) (C24, N)) H locs := by first | exact hw | (simpa only [up_self] using hw)
    obtain ⟨hi, h⟩ := h
    refine C_s5_3 hC hK hw hi dX5_goThrough_82 (fun C27 H locs eC27 hw => ?_)
    replace h := h C27 eC27
    refine lv_aload_n hx hb dX5_goThrough_83 rfl (lv_at hl 0 rfl) ?_
    refine O5_g9 hC hinX5 hK (hw.sub sC1O) (List.mem_of_getElem? (i := 1) rfl) dX5_goThrough_84 ?_
    refine R5_rg4 hC hinX2 hK (hw.sub sC1R) hE.nFX5_207 dX5_goThrough_87 ?_
    refine lv_iload_n hx hb dX5_goThrough_90 rfl (lv_at hl 2 rfl) ?_
    refine lv_aload_n hx hb dX5_goThrough_91 rfl (lv_at hl 0 rfl) ?_
    refine O5_g0 hC hinX5 hK (hw.sub sC1O) (List.mem_of_getElem? (i := 2) rfl) dX5_goThrough_92 ?_
    refine P5_pg3 hC hinX1 hK (hw.sub (sC1P isP1)) hE.nFX5_97 dX5_goThrough_95 ?_
    refine lv_iload_n hx hb dX5_goThrough_98 rfl (lv_at hl 2 rfl) ?_
    obtain ⟨hi, h⟩ := h
    refine P5_pl3 hC hK (hw.sub (sC1P isP1)) hi dX5_goThrough_99 ?_
    obtain ⟨hi, h⟩ := h
    refine C_s5_4 hC hK hw hi dX5_goThrough_100 (fun C28 H locs eC28 hw => ?_)
    replace h := h C28 eC28
    obtain ⟨x29, ex29⟩ : ∃ y : Int32, y = x2 + (1 : Int32) := ⟨_, rfl⟩
    refine lv_iinc (v := x29) (lv' := [(2, .int x29), (0, .ref (q 0 0)), (1, .int a1)]) hx hb dX5_goThrough_101 hl (k := 2) rfl (by rw [ex29]; rfl) (by decide) rfl (fun ls hl => ?_)
    replace h := h x29 ex29
    refine lv_goto (tgt := 16) hx hb dX5_goThrough_104 (by decide) ?_
    exact h _ _ _ hw (lv_sub hl [1, 2, 0] rfl)
def wX5_lines (C : Nat → Bun) (N : Nat → Lon) (a1 : Int32) (post : Int32 → (Nat → Bun) → Prop) : Prop :=
  wX1_hasTeam (C 1) a1 (fun r1 => ((r1 = 0 → wX5_finding C N (0 : Int32) (fun r7 C9 => post r7 C9)) ∧ (¬ (r1 = 0) → wX5_goThrough C N a1 (fun C5 => post (C5 5 0 5) C5))))
set_option maxRecDepth 100000 in
set_option maxHeartbeats 4000000 in
theorem kX5_lines (l : Launch) (g : Gl) (aK : Nat → Nat) (aV : Nat → Nat) (q : Nat → Nat → Nat) (sz : Nat) (C : Nat → Bun) (N : Nat → Lon) (a1 : Int32) (post : Int32 → (Nat → Bun) → Prop) (h : wX5_lines C N a1 post) : Met l yX5_lines wsX5_lines (rmm 24 720) (wPc g (E5 aK aV) ((wC g q) (C, N)) sz [.ref (q 0 0), .int a1]) (va_Qi (fun (r : Int32) (u : (Nat → Bun) × (Nat → Lon)) => u.2 = N ∧ post r u.1) (wB g (wC g q) (va_A ((wC g q) (C, N)) sz)) (va_A ((wC g q) (C, N)) sz)) 0 0 (va_A ((wC g q) (C, N)) sz) := by
  refine mstart (Qf := fun A => va_Qi (fun (r : Int32) (u : (Nat → Bun) × (Nat → Lon)) => u.2 = N ∧ post r u.1) (wB g (wC g q) A) A) (by decide) rfl (Nat.le_of_ble_eq_true rfl) ?_
  intro p e s m args below meth c A Q H locs ls hC hr hlocks hname hQ hA hK hE hw hl
  have hC : CallFix p m c cX5_lines 2 s args wsX5_lines RX5 := hC
  obtain ⟨hx, hb, -, hown, hts⟩ := id hC
  have hl : lv_has ls 2 [(0, .ref (q 0 0)), (1, .int a1)] := hl
  rw [wX5_lines] at h
  have hinX2 : ∀ w ∈ wsX20, w ∈ wsX5_lines := fun w hw9 => List.mem_cons_of_mem _ (List.mem_append_left _ (List.mem_append_left _ (List.mem_append_right _ hw9)))
  have hinX5 : ∀ w ∈ wsX50, w ∈ wsX5_lines := fun w hw9 => List.mem_cons_of_mem _ (List.mem_append_left _ (List.mem_append_left _ (List.mem_append_left _ (List.mem_append_right _ hw9))))
  refine lv_aload_n hx hb dX5_lines_0 rfl (lv_at hl 0 rfl) ?_
  refine O5_g0 hC hinX5 hK (hw.sub sC1O) (List.mem_of_getElem? (i := 1) rfl) dX5_lines_1 ?_
  refine lv_iload_n hx hb dX5_lines_4 rfl (lv_at hl 1 rfl) ?_
  refine mcalli (w1 := (fun u9 : Bun => wC g q (va_up C 1 u9, N))) (va_runVN (C := RX1) (As := [.int a1]) (rest := []) hC (kX1_hasTeam l g aK aV (q 1) H.size (C 1) a1 _ h) ⟨va_cnB 1 hts gX5_lines_X1_hasTeam_n116 rfl rfl rfl hE.nMX5_116 (hts (.initialized RX1) (List.mem_of_getElem? (i := 4) rfl)) (by decide +kernel) ⟨Nat.le_of_ble_eq_true rfl, Nat.le_of_ble_eq_true rfl⟩, (hts (.instanceMethod yX1_hasTeam) (List.mem_of_getElem? (i := 3) rfl)), (hts (.selects RX1 yX1_hasTeam yX1_hasTeam) (List.mem_of_getElem? (i := 5) rfl))⟩ (mpreV (E5_ok aK aV) hK hE hA hw (sC1P isP1) 0 rfl rfl) rfl rfl hl.1 rfl (lv_room (Nat.le_of_ble_eq_true rfl)) dX5_lines_5 ⟨Nat.zero_le _, Nat.zero_le _⟩) hA hw (sC1P isP1) (fun u9 => sCP isP1 u9) (fun r1 u2 H locs h hw => ?_)
  obtain ⟨hu, h⟩ := h
  replace hu := hu.symm
  subst hu
  replace hw : Wd g.1 A s.heap ((wC g q) (C, N)) H locs := by first | exact hw | (simpa only [up_self] using hw)
  refine lv_if_ne (tgt := 17) hx hb dX5_lines_8 (by decide) (fun c11 => ?_) (fun c11 => ?_)
  · replace h := h.2 c11
    refine lv_aload_n hx hb dX5_lines_17 rfl (lv_at hl 0 rfl) ?_
    refine lv_iload_n hx hb dX5_lines_18 rfl (lv_at hl 1 rfl) ?_
    refine mcallv (w1 := (wC g q)) (va_runV (As := [.int a1]) (rest := []) hC (kX5_goThrough l g aK aV q H.size C N a1 _ h) (cwV 1 hts gX5_lines_X5_goThrough rfl rfl rfl (by decide +kernel) ⟨Nat.le_of_ble_eq_true rfl, Nat.le_of_ble_eq_true rfl⟩) (mpreV (E5_ok aK aV) hK hE hA hw (Sub1.refl _) 0 rfl rfl) rfl rfl hl.1 rfl (lv_room (Nat.le_of_ble_eq_true rfl)) dX5_lines_19 ⟨Nat.zero_le _, Nat.zero_le _⟩) hA hw (Sub1.refl _) (fun u9 => Sub.whole (wC_map u9.1 u9.2)) (fun u4 H locs h hw => ?_)
    obtain ⟨C5, N6⟩ := u4
    obtain ⟨hu, h⟩ := h
    replace hu : N = N6 := hu.symm
    subst hu
    refine lv_aload_n hx hb dX5_lines_22 rfl (lv_at hl 0 rfl) ?_
    refine O5_g9 hC hinX5 hK (hw.sub sC1O) (List.mem_of_getElem? (i := 2) rfl) dX5_lines_23 ?_
    refine R5_rg5 hC hinX2 hK (hw.sub sC1R) hE.nFX5_186 dX5_lines_26 ?_
    rw [hQ]
    exact mreti (w := (wC g q)) (u := (C5, N)) hC hr hlocks hK hw ⟨rfl, h⟩ dX5_lines_29
  · replace h := h.1 c11
    refine lv_aload_n hx hb dX5_lines_11 rfl (lv_at hl 0 rfl) ?_
    refine lv_iconst (v := (0 : Int32)) hx hb dX5_lines_12 (by decide) ?_
    refine mcalli (w1 := (wC g q)) (va_runV (As := [.int (0 : Int32)]) (rest := []) hC (kX5_finding l g aK aV q H.size C N (0 : Int32) _ h) (cwV 1 hts gX5_lines_X5_finding rfl rfl rfl (by decide +kernel) ⟨Nat.le_of_ble_eq_true rfl, Nat.le_of_ble_eq_true rfl⟩) (mpreV (E5_ok aK aV) hK hE hA hw (Sub1.refl _) 0 rfl rfl) rfl rfl hl.1 rfl (lv_room (Nat.le_of_ble_eq_true rfl)) dX5_lines_13 ⟨Nat.zero_le _, Nat.zero_le _⟩) hA hw (Sub1.refl _) (fun u9 => Sub.whole (wC_map u9.1 u9.2)) (fun r7 u8 H locs h hw => ?_)
    obtain ⟨C9, N10⟩ := u8
    obtain ⟨hu, h⟩ := h
    replace hu : N = N10 := hu.symm
    subst hu
    rw [hQ]
    exact mreti (w := (wC g q)) (u := (C9, N)) hC hr hlocks hK hw ⟨rfl, h⟩ dX5_lines_16
def wX5_late (C : Nat → Bun) (N : Nat → Lon) (a1 : Int32) (a2 : Int32) (post : Int32 → (Nat → Bun) → Prop) : Prop :=
  wX1_hasTeam (C 1) a1 (fun r1 => wjoin (σ := Unit) (fun _ => wX5_finding C N (0 : Int32) (fun r6 C8 => post r6 C8)) (fun J3 => ((r1 = 0 → J3 ()) ∧ (¬ (r1 = 0) → ((a2 < (-2 : Int32) → J3 ()) ∧ (¬ (a2 < (-2 : Int32)) → ((a2 < (6 : Int32) → wX5_goThrough C N a1 (fun C12 => wjoin (σ := Unit) (fun _ => wX5_finding C12 N (3 : Int32) (fun r17 C19 => post r17 C19)) (fun J14 => (((C12 5 0 5) = 0 → J14 ()) ∧ (¬ ((C12 5 0 5) = 0) → ((a2 < (C12 1 0 0) → ((a2 = (-1 : Int32) → post (C12 5 0 7) C12) ∧ (¬ (a2 = (-1 : Int32)) → ((a2 = (-2 : Int32) → post (C12 5 0 8) C12) ∧ (¬ (a2 = (-2 : Int32)) → vp_in a2 6 ∧ post (C12 5 10 a2.toNatClampNeg) C12))))) ∧ (¬ (a2 < (C12 1 0 0)) → J14 ()))))))) ∧ (¬ (a2 < (6 : Int32)) → J3 ()))))))))
set_option maxRecDepth 100000 in
set_option maxHeartbeats 4000000 in
theorem kX5_late (l : Launch) (g : Gl) (aK : Nat → Nat) (aV : Nat → Nat) (q : Nat → Nat → Nat) (sz : Nat) (C : Nat → Bun) (N : Nat → Lon) (a1 : Int32) (a2 : Int32) (post : Int32 → (Nat → Bun) → Prop) (h : wX5_late C N a1 a2 post) : Met l yX5_late wsX5_late (rmm 24 720) (wPc g (E5 aK aV) ((wC g q) (C, N)) sz [.ref (q 0 0), .int a1, .int a2]) (va_Qi (fun (r : Int32) (u : (Nat → Bun) × (Nat → Lon)) => u.2 = N ∧ post r u.1) (wB g (wC g q) (va_A ((wC g q) (C, N)) sz)) (va_A ((wC g q) (C, N)) sz)) 0 0 (va_A ((wC g q) (C, N)) sz) := by
  refine mstart (Qf := fun A => va_Qi (fun (r : Int32) (u : (Nat → Bun) × (Nat → Lon)) => u.2 = N ∧ post r u.1) (wB g (wC g q) A) A) (by decide) rfl (Nat.le_of_ble_eq_true rfl) ?_
  intro p e s m args below meth c A Q H locs ls hC hr hlocks hname hQ hA hK hE hw hl
  have hC : CallFix p m c cX5_late 3 s args wsX5_late RX5 := hC
  obtain ⟨hx, hb, -, hown, hts⟩ := id hC
  have hl : lv_has ls 3 [(0, .ref (q 0 0)), (1, .int a1), (2, .int a2)] := hl
  rw [wX5_late] at h
  have hinX1 : ∀ w ∈ wsX10, w ∈ wsX5_late := fun w hw9 => List.mem_cons_of_mem _ (List.mem_append_left _ (List.mem_append_right _ hw9))
  have hinX2 : ∀ w ∈ wsX20, w ∈ wsX5_late := fun w hw9 => List.mem_cons_of_mem _ (List.mem_append_left _ (List.mem_append_left _ (List.mem_append_right _ hw9)))
  have hinX5 : ∀ w ∈ wsX50, w ∈ wsX5_late := fun w hw9 => List.mem_cons_of_mem _ (List.mem_append_left _ (List.mem_append_left _ (List.mem_append_left _ (List.mem_append_right _ hw9))))
  refine lv_aload_n hx hb dX5_late_0 rfl (lv_at hl 0 rfl) ?_
  refine O5_g0 hC hinX5 hK (hw.sub sC1O) (List.mem_of_getElem? (i := 1) rfl) dX5_late_1 ?_
  refine lv_iload_n hx hb dX5_late_4 rfl (lv_at hl 1 rfl) ?_
  refine mcalli (w1 := (fun u9 : Bun => wC g q (va_up C 1 u9, N))) (va_runVN (C := RX1) (As := [.int a1]) (rest := []) hC (kX1_hasTeam l g aK aV (q 1) H.size (C 1) a1 _ h) ⟨va_cnB 1 hts gX5_late_X1_hasTeam_n116 rfl rfl rfl hE.nMX5_116 (hts (.initialized RX1) (List.mem_of_getElem? (i := 4) rfl)) (by decide +kernel) ⟨Nat.le_of_ble_eq_true rfl, Nat.le_of_ble_eq_true rfl⟩, (hts (.instanceMethod yX1_hasTeam) (List.mem_of_getElem? (i := 3) rfl)), (hts (.selects RX1 yX1_hasTeam yX1_hasTeam) (List.mem_of_getElem? (i := 5) rfl))⟩ (mpreV (E5_ok aK aV) hK hE hA hw (sC1P isP1) 0 rfl rfl) rfl rfl hl.1 rfl (lv_room (Nat.le_of_ble_eq_true rfl)) dX5_late_5 ⟨Nat.zero_le _, Nat.zero_le _⟩) hA hw (sC1P isP1) (fun u9 => sCP isP1 u9) (fun r1 u2 H locs h hw => ?_)
  obtain ⟨hu, h⟩ := h
  replace hu := hu.symm
  subst hu
  replace hw : Wd g.1 A s.heap ((wC g q) (C, N)) H locs := by first | exact hw | (simpa only [up_self] using hw)
  obtain ⟨J3, hJ4, h⟩ := h
  have join5 : ∀  (H : Heap) (locs : List Loc) (ls : Array Slot), J3 () → Wd g.1 A s.heap ((wC g q) (C, N)) H locs → lv_has ls 3 [(0, .ref (q 0 0))] → W p l e (rmm 24 720) s m args below meth c H locs 0 0 Q (F0 m 23 ls []) := by
    intro  H locs ls h hw hl
    replace h := hJ4 () h
    refine lv_aload_n hx hb dX5_late_23 rfl (lv_at hl 0 rfl) ?_
    refine lv_iconst (v := (0 : Int32)) hx hb dX5_late_24 (by decide) ?_
    refine mcalli (w1 := (wC g q)) (va_runV (As := [.int (0 : Int32)]) (rest := []) hC (kX5_finding l g aK aV q H.size C N (0 : Int32) _ h) (cwV 1 hts gX5_late_X5_finding rfl rfl rfl (by decide +kernel) ⟨Nat.le_of_ble_eq_true rfl, Nat.le_of_ble_eq_true rfl⟩) (mpreV (E5_ok aK aV) hK hE hA hw (Sub1.refl _) 0 rfl rfl) rfl rfl hl.1 rfl (lv_room (Nat.le_of_ble_eq_true rfl)) dX5_late_25 ⟨Nat.zero_le _, Nat.zero_le _⟩) hA hw (Sub1.refl _) (fun u9 => Sub.whole (wC_map u9.1 u9.2)) (fun r6 u7 H locs h hw => ?_)
    obtain ⟨C8, N9⟩ := u7
    obtain ⟨hu, h⟩ := h
    replace hu : N = N9 := hu.symm
    subst hu
    rw [hQ]
    exact mreti (w := (wC g q)) (u := (C8, N)) hC hr hlocks hK hw ⟨rfl, h⟩ dX5_late_28
  refine lv_if_eq (tgt := 23) hx hb dX5_late_8 (by decide) (fun c27 => ?_) (fun c27 => ?_)
  · replace h := h.1 c27
    exact join5  _ _ _ h hw (lv_sub hl [0] rfl)
  · replace h := h.2 c27
    refine lv_iload_n hx hb dX5_late_11 rfl (lv_at hl 2 rfl) ?_
    refine lv_bipush (v := (-2 : Int32)) hx hb dX5_late_12 (by decide) ?_
    refine lv_icmp_lt (tgt := 23) hx hb dX5_late_14 (by decide) (fun c26 => ?_) (fun c26 => ?_)
    · replace h := h.1 c26
      exact join5  _ _ _ h hw (lv_sub hl [0] rfl)
    · replace h := h.2 c26
      refine lv_iload_n hx hb dX5_late_17 rfl (lv_at hl 2 rfl) ?_
      refine lv_bipush (v := (6 : Int32)) hx hb dX5_late_18 (by decide) ?_
      refine lv_icmp_lt (tgt := 29) hx hb dX5_late_20 (by decide) (fun c25 => ?_) (fun c25 => ?_)
      · replace h := h.1 c25
        refine lv_aload_n hx hb dX5_late_29 rfl (lv_at hl 0 rfl) ?_
        refine lv_iload_n hx hb dX5_late_30 rfl (lv_at hl 1 rfl) ?_
        refine mcallv (w1 := (wC g q)) (va_runV (As := [.int a1]) (rest := []) hC (kX5_goThrough l g aK aV q H.size C N a1 _ h) (cwV 1 hts gX5_late_X5_goThrough rfl rfl rfl (by decide +kernel) ⟨Nat.le_of_ble_eq_true rfl, Nat.le_of_ble_eq_true rfl⟩) (mpreV (E5_ok aK aV) hK hE hA hw (Sub1.refl _) 0 rfl rfl) rfl rfl hl.1 rfl (lv_room (Nat.le_of_ble_eq_true rfl)) dX5_late_31 ⟨Nat.zero_le _, Nat.zero_le _⟩) hA hw (Sub1.refl _) (fun u9 => Sub.whole (wC_map u9.1 u9.2)) (fun u11 H locs h hw => ?_)
        obtain ⟨C12, N13⟩ := u11
        obtain ⟨hu, h⟩ := h
        replace hu : N = N13 := hu.symm
        subst hu
        refine lv_aload_n hx hb dX5_late_34 rfl (lv_at hl 0 rfl) ?_
        refine O5_g9 hC hinX5 hK (hw.sub sC1O) (List.mem_of_getElem? (i := 2) rfl) dX5_late_35 ?_
        refine R5_rg5 hC hinX2 hK (hw.sub sC1R) hE.nFX5_186 dX5_late_38 ?_
        obtain ⟨J14, hJ15, h⟩ := h
        have join16 : ∀  (H : Heap) (locs : List Loc) (ls : Array Slot), J14 () → Wd g.1 A s.heap ((wC g q) (C12, N)) H locs → lv_has ls 3 [(0, .ref (q 0 0))] → W p l e (rmm 24 720) s m args below meth c H locs 0 0 Q (F0 m 55 ls []) := by
          intro  H locs ls h hw hl
          replace h := hJ15 () h
          refine lv_aload_n hx hb dX5_late_55 rfl (lv_at hl 0 rfl) ?_
          refine lv_iconst (v := (3 : Int32)) hx hb dX5_late_56 (by decide) ?_
          refine mcalli (w1 := (wC g q)) (va_runV (As := [.int (3 : Int32)]) (rest := []) hC (kX5_finding l g aK aV q H.size C12 N (3 : Int32) _ h) (cwV 1 hts gX5_late_X5_finding rfl rfl rfl (by decide +kernel) ⟨Nat.le_of_ble_eq_true rfl, Nat.le_of_ble_eq_true rfl⟩) (mpreV (E5_ok aK aV) hK hE hA hw (Sub1.refl _) 0 rfl rfl) rfl rfl hl.1 rfl (lv_room (Nat.le_of_ble_eq_true rfl)) dX5_late_57 ⟨Nat.zero_le _, Nat.zero_le _⟩) hA hw (Sub1.refl _) (fun u9 => Sub.whole (wC_map u9.1 u9.2)) (fun r17 u18 H locs h hw => ?_)
          obtain ⟨C19, N20⟩ := u18
          obtain ⟨hu, h⟩ := h
          replace hu : N = N20 := hu.symm
          subst hu
          rw [hQ]
          exact mreti (w := (wC g q)) (u := (C19, N)) hC hr hlocks hK hw ⟨rfl, h⟩ dX5_late_60
        refine lv_if_eq (tgt := 55) hx hb dX5_late_41 (by decide) (fun c24 => ?_) (fun c24 => ?_)
        · replace h := h.1 c24
          exact join16  _ _ _ h hw (lv_sub hl [0] rfl)
        · replace h := h.2 c24
          refine lv_iload_n hx hb dX5_late_44 rfl (lv_at hl 2 rfl) ?_
          refine lv_aload_n hx hb dX5_late_45 rfl (lv_at hl 0 rfl) ?_
          refine O5_g0 hC hinX5 hK (hw.sub sC1O) (List.mem_of_getElem? (i := 1) rfl) dX5_late_46 ?_
          refine P5_pg0 hC hinX1 hK (hw.sub (sC1P isP1)) hE.nFX5_61 dX5_late_49 ?_
          refine lv_icmp_lt (tgt := 61) hx hb dX5_late_52 (by decide) (fun c23 => ?_) (fun c23 => ?_)
          · replace h := h.1 c23
            refine lv_iload_n hx hb dX5_late_61 rfl (lv_at hl 2 rfl) ?_
            refine lv_iconst (v := (-1 : Int32)) hx hb dX5_late_62 (by decide) ?_
            refine lv_icmp_ne (tgt := 74) hx hb dX5_late_63 (by decide) (fun c22 => ?_) (fun c22 => ?_)
            · replace h := h.2 c22
              refine lv_iload_n hx hb dX5_late_74 rfl (lv_at hl 2 rfl) ?_
              refine lv_bipush (v := (-2 : Int32)) hx hb dX5_late_75 (by decide) ?_
              refine lv_icmp_ne (tgt := 90) hx hb dX5_late_77 (by decide) (fun c21 => ?_) (fun c21 => ?_)
              · replace h := h.2 c21
                refine lv_aload_n hx hb dX5_late_90 rfl (lv_at hl 0 rfl) ?_
                refine O5_g9 hC hinX5 hK (hw.sub sC1O) (List.mem_of_getElem? (i := 2) rfl) dX5_late_91 ?_
                refine R5_rg9 hC hinX2 hK (hw.sub sC1R) hE.nFX5_195 dX5_late_94 ?_
                refine lv_iload_n hx hb dX5_late_97 rfl (lv_at hl 2 rfl) ?_
                obtain ⟨hi, h⟩ := h
                refine R5_rl9 hC hK (hw.sub sC1R) hi dX5_late_98 ?_
                rw [hQ]
                exact mreti (w := (wC g q)) (u := (C12, N)) hC hr hlocks hK hw ⟨rfl, h⟩ dX5_late_99
              · replace h := h.1 c21
                refine lv_aload_n hx hb dX5_late_80 rfl (lv_at hl 0 rfl) ?_
                refine O5_g9 hC hinX5 hK (hw.sub sC1O) (List.mem_of_getElem? (i := 2) rfl) dX5_late_81 ?_
                refine R5_rg8 hC hinX2 hK (hw.sub sC1R) hE.nFX5_192 dX5_late_84 ?_
                refine lv_goto (tgt := 99) hx hb dX5_late_87 (by decide) ?_
                rw [hQ]
                exact mreti (w := (wC g q)) (u := (C12, N)) hC hr hlocks hK hw ⟨rfl, h⟩ dX5_late_99
            · replace h := h.1 c22
              refine lv_aload_n hx hb dX5_late_66 rfl (lv_at hl 0 rfl) ?_
              refine O5_g9 hC hinX5 hK (hw.sub sC1O) (List.mem_of_getElem? (i := 2) rfl) dX5_late_67 ?_
              refine R5_rg7 hC hinX2 hK (hw.sub sC1R) hE.nFX5_189 dX5_late_70 ?_
              rw [hQ]
              exact mreti (w := (wC g q)) (u := (C12, N)) hC hr hlocks hK hw ⟨rfl, h⟩ dX5_late_73
          · replace h := h.2 c23
            exact join16  _ _ _ h hw (lv_sub hl [0] rfl)
      · replace h := h.2 c25
        exact join5  _ _ _ h hw (lv_sub hl [0] rfl)
def wX5_done (C : Nat → Bun) (N : Nat → Lon) (a1 : Int32) (a2 : Int32) (post : Int32 → (Nat → Bun) → Prop) : Prop :=
  wX1_hasTeam (C 1) a1 (fun r1 => wjoin (σ := Unit) (fun _ => wX5_finding C N (0 : Int32) (fun r6 C8 => post r6 C8)) (fun J3 => ((r1 = 0 → J3 ()) ∧ (¬ (r1 = 0) → wX1_hasField (C 1) a2 (fun r10 => ((r10 = 0 → J3 ()) ∧ (¬ (r10 = 0) → wX5_goThrough C N a1 (fun C14 => (((C14 5 0 5) = 0 → wX5_finding C14 N (3 : Int32) (fun r16 C18 => post r16 C18)) ∧ (¬ ((C14 5 0 5) = 0) → vp_in a2 6 ∧ post (C14 5 11 a2.toNatClampNeg) C14))))))))))
set_option maxRecDepth 100000 in
set_option maxHeartbeats 4000000 in
theorem kX5_done (l : Launch) (g : Gl) (aK : Nat → Nat) (aV : Nat → Nat) (q : Nat → Nat → Nat) (sz : Nat) (C : Nat → Bun) (N : Nat → Lon) (a1 : Int32) (a2 : Int32) (post : Int32 → (Nat → Bun) → Prop) (h : wX5_done C N a1 a2 post) : Met l yX5_done wsX5_done (rmm 24 720) (wPc g (E5 aK aV) ((wC g q) (C, N)) sz [.ref (q 0 0), .int a1, .int a2]) (va_Qi (fun (r : Int32) (u : (Nat → Bun) × (Nat → Lon)) => u.2 = N ∧ post r u.1) (wB g (wC g q) (va_A ((wC g q) (C, N)) sz)) (va_A ((wC g q) (C, N)) sz)) 0 0 (va_A ((wC g q) (C, N)) sz) := by
  refine mstart (Qf := fun A => va_Qi (fun (r : Int32) (u : (Nat → Bun) × (Nat → Lon)) => u.2 = N ∧ post r u.1) (wB g (wC g q) A) A) (by decide) rfl (Nat.le_of_ble_eq_true rfl) ?_
  intro p e s m args below meth c A Q H locs ls hC hr hlocks hname hQ hA hK hE hw hl
  have hC : CallFix p m c cX5_done 3 s args wsX5_done RX5 := hC
  obtain ⟨hx, hb, -, hown, hts⟩ := id hC
  have hl : lv_has ls 3 [(0, .ref (q 0 0)), (1, .int a1), (2, .int a2)] := hl
  rw [wX5_done] at h
  have hinX2 : ∀ w ∈ wsX20, w ∈ wsX5_done := fun w hw9 => List.mem_cons_of_mem _ (List.mem_append_left _ (List.mem_append_left _ (List.mem_append_right _ hw9)))
  have hinX5 : ∀ w ∈ wsX50, w ∈ wsX5_done := fun w hw9 => List.mem_cons_of_mem _ (List.mem_append_left _ (List.mem_append_left _ (List.mem_append_left _ (List.mem_append_right _ hw9))))
  refine lv_aload_n hx hb dX5_done_0 rfl (lv_at hl 0 rfl) ?_
  refine O5_g0 hC hinX5 hK (hw.sub sC1O) (List.mem_of_getElem? (i := 1) rfl) dX5_done_1 ?_
  refine lv_iload_n hx hb dX5_done_4 rfl (lv_at hl 1 rfl) ?_
  refine mcalli (w1 := (fun u9 : Bun => wC g q (va_up C 1 u9, N))) (va_runVN (C := RX1) (As := [.int a1]) (rest := []) hC (kX1_hasTeam l g aK aV (q 1) H.size (C 1) a1 _ h) ⟨va_cnB 1 hts gX5_done_X1_hasTeam_n116 rfl rfl rfl hE.nMX5_116 (hts (.initialized RX1) (List.mem_of_getElem? (i := 4) rfl)) (by decide +kernel) ⟨Nat.le_of_ble_eq_true rfl, Nat.le_of_ble_eq_true rfl⟩, (hts (.instanceMethod yX1_hasTeam) (List.mem_of_getElem? (i := 3) rfl)), (hts (.selects RX1 yX1_hasTeam yX1_hasTeam) (List.mem_of_getElem? (i := 5) rfl))⟩ (mpreV (E5_ok aK aV) hK hE hA hw (sC1P isP1) 0 rfl rfl) rfl rfl hl.1 rfl (lv_room (Nat.le_of_ble_eq_true rfl)) dX5_done_5 ⟨Nat.zero_le _, Nat.zero_le _⟩) hA hw (sC1P isP1) (fun u9 => sCP isP1 u9) (fun r1 u2 H locs h hw => ?_)
  obtain ⟨hu, h⟩ := h
  replace hu := hu.symm
  subst hu
  replace hw : Wd g.1 A s.heap ((wC g q) (C, N)) H locs := by first | exact hw | (simpa only [up_self] using hw)
  obtain ⟨J3, hJ4, h⟩ := h
  have join5 : ∀  (H : Heap) (locs : List Loc) (ls : Array Slot), J3 () → Wd g.1 A s.heap ((wC g q) (C, N)) H locs → lv_has ls 3 [(0, .ref (q 0 0))] → W p l e (rmm 24 720) s m args below meth c H locs 0 0 Q (F0 m 22 ls []) := by
    intro  H locs ls h hw hl
    replace h := hJ4 () h
    refine lv_aload_n hx hb dX5_done_22 rfl (lv_at hl 0 rfl) ?_
    refine lv_iconst (v := (0 : Int32)) hx hb dX5_done_23 (by decide) ?_
    refine mcalli (w1 := (wC g q)) (va_runV (As := [.int (0 : Int32)]) (rest := []) hC (kX5_finding l g aK aV q H.size C N (0 : Int32) _ h) (cwV 1 hts gX5_done_X5_finding rfl rfl rfl (by decide +kernel) ⟨Nat.le_of_ble_eq_true rfl, Nat.le_of_ble_eq_true rfl⟩) (mpreV (E5_ok aK aV) hK hE hA hw (Sub1.refl _) 0 rfl rfl) rfl rfl hl.1 rfl (lv_room (Nat.le_of_ble_eq_true rfl)) dX5_done_24 ⟨Nat.zero_le _, Nat.zero_le _⟩) hA hw (Sub1.refl _) (fun u9 => Sub.whole (wC_map u9.1 u9.2)) (fun r6 u7 H locs h hw => ?_)
    obtain ⟨C8, N9⟩ := u7
    obtain ⟨hu, h⟩ := h
    replace hu : N = N9 := hu.symm
    subst hu
    rw [hQ]
    exact mreti (w := (wC g q)) (u := (C8, N)) hC hr hlocks hK hw ⟨rfl, h⟩ dX5_done_27
  refine lv_if_eq (tgt := 22) hx hb dX5_done_8 (by decide) (fun c22 => ?_) (fun c22 => ?_)
  · replace h := h.1 c22
    exact join5  _ _ _ h hw (lv_sub hl [0] rfl)
  · replace h := h.2 c22
    refine lv_aload_n hx hb dX5_done_11 rfl (lv_at hl 0 rfl) ?_
    refine O5_g0 hC hinX5 hK (hw.sub sC1O) (List.mem_of_getElem? (i := 1) rfl) dX5_done_12 ?_
    refine lv_iload_n hx hb dX5_done_15 rfl (lv_at hl 2 rfl) ?_
    refine mcalli (w1 := (fun u9 : Bun => wC g q (va_up C 1 u9, N))) (va_runVN (C := RX1) (As := [.int a2]) (rest := []) hC (kX1_hasField l g aK aV (q 1) H.size (C 1) a2 _ h) ⟨va_cnB 1 hts gX5_done_X1_hasField_n73 rfl rfl rfl hE.nMX5_73 (hts (.initialized RX1) (List.mem_of_getElem? (i := 4) rfl)) (by decide +kernel) ⟨Nat.le_of_ble_eq_true rfl, Nat.le_of_ble_eq_true rfl⟩, (hts (.instanceMethod yX1_hasField) (List.mem_of_getElem? (i := 8) rfl)), (hts (.selects RX1 yX1_hasField yX1_hasField) (List.mem_of_getElem? (i := 9) rfl))⟩ (mpreV (E5_ok aK aV) hK hE hA hw (sC1P isP1) 0 rfl rfl) rfl rfl hl.1 rfl (lv_room (Nat.le_of_ble_eq_true rfl)) dX5_done_16 ⟨Nat.zero_le _, Nat.zero_le _⟩) hA hw (sC1P isP1) (fun u9 => sCP isP1 u9) (fun r10 u11 H locs h hw => ?_)
    obtain ⟨hu, h⟩ := h
    replace hu := hu.symm
    subst hu
    replace hw : Wd g.1 A s.heap ((wC g q) (C, N)) H locs := by first | exact hw | (simpa only [up_self] using hw)
    refine lv_if_ne (tgt := 28) hx hb dX5_done_19 (by decide) (fun c21 => ?_) (fun c21 => ?_)
    · replace h := h.2 c21
      refine lv_aload_n hx hb dX5_done_28 rfl (lv_at hl 0 rfl) ?_
      refine lv_iload_n hx hb dX5_done_29 rfl (lv_at hl 1 rfl) ?_
      refine mcallv (w1 := (wC g q)) (va_runV (As := [.int a1]) (rest := []) hC (kX5_goThrough l g aK aV q H.size C N a1 _ h) (cwV 1 hts gX5_done_X5_goThrough rfl rfl rfl (by decide +kernel) ⟨Nat.le_of_ble_eq_true rfl, Nat.le_of_ble_eq_true rfl⟩) (mpreV (E5_ok aK aV) hK hE hA hw (Sub1.refl _) 0 rfl rfl) rfl rfl hl.1 rfl (lv_room (Nat.le_of_ble_eq_true rfl)) dX5_done_30 ⟨Nat.zero_le _, Nat.zero_le _⟩) hA hw (Sub1.refl _) (fun u9 => Sub.whole (wC_map u9.1 u9.2)) (fun u13 H locs h hw => ?_)
      obtain ⟨C14, N15⟩ := u13
      obtain ⟨hu, h⟩ := h
      replace hu : N = N15 := hu.symm
      subst hu
      refine lv_aload_n hx hb dX5_done_33 rfl (lv_at hl 0 rfl) ?_
      refine O5_g9 hC hinX5 hK (hw.sub sC1O) (List.mem_of_getElem? (i := 2) rfl) dX5_done_34 ?_
      refine R5_rg5 hC hinX2 hK (hw.sub sC1R) hE.nFX5_186 dX5_done_37 ?_
      refine lv_if_ne (tgt := 51) hx hb dX5_done_40 (by decide) (fun c20 => ?_) (fun c20 => ?_)
      · replace h := h.2 c20
        refine lv_aload_n hx hb dX5_done_51 rfl (lv_at hl 0 rfl) ?_
        refine O5_g9 hC hinX5 hK (hw.sub sC1O) (List.mem_of_getElem? (i := 2) rfl) dX5_done_52 ?_
        refine R5_rg10 hC hinX2 hK (hw.sub sC1R) hE.nFX5_198 dX5_done_55 ?_
        refine lv_iload_n hx hb dX5_done_58 rfl (lv_at hl 2 rfl) ?_
        obtain ⟨hi, h⟩ := h
        refine R5_rl10 hC hK (hw.sub sC1R) hi dX5_done_59 ?_
        rw [hQ]
        exact mreti (w := (wC g q)) (u := (C14, N)) hC hr hlocks hK hw ⟨rfl, h⟩ dX5_done_60
      · replace h := h.1 c20
        refine lv_aload_n hx hb dX5_done_43 rfl (lv_at hl 0 rfl) ?_
        refine lv_iconst (v := (3 : Int32)) hx hb dX5_done_44 (by decide) ?_
        refine mcalli (w1 := (wC g q)) (va_runV (As := [.int (3 : Int32)]) (rest := []) hC (kX5_finding l g aK aV q H.size C14 N (3 : Int32) _ h) (cwV 1 hts gX5_done_X5_finding rfl rfl rfl (by decide +kernel) ⟨Nat.le_of_ble_eq_true rfl, Nat.le_of_ble_eq_true rfl⟩) (mpreV (E5_ok aK aV) hK hE hA hw (Sub1.refl _) 0 rfl rfl) rfl rfl hl.1 rfl (lv_room (Nat.le_of_ble_eq_true rfl)) dX5_done_45 ⟨Nat.zero_le _, Nat.zero_le _⟩) hA hw (Sub1.refl _) (fun u9 => Sub.whole (wC_map u9.1 u9.2)) (fun r16 u17 H locs h hw => ?_)
        obtain ⟨C18, N19⟩ := u17
        obtain ⟨hu, h⟩ := h
        replace hu : N = N19 := hu.symm
        subst hu
        refine lv_goto (tgt := 60) hx hb dX5_done_48 (by decide) ?_
        rw [hQ]
        exact mreti (w := (wC g q)) (u := (C18, N)) hC hr hlocks hK hw ⟨rfl, h⟩ dX5_done_60
    · replace h := h.1 c21
      exact join5  _ _ _ h hw (lv_sub hl [0] rfl)
def wX5_yields (C : Nat → Bun) (N : Nat → Lon) (a1 : Int32) (post : Int32 → (Nat → Bun) → Prop) : Prop :=
  wX1_hasTeam (C 1) a1 (fun r1 => ((r1 = 0 → wX5_finding C N (0 : Int32) (fun r12 C14 => post r12 C14)) ∧ (¬ (r1 = 0) → wX5_goThrough C N a1 (fun C5 => (((C5 5 0 5) = 0 → wX5_finding C5 N (3 : Int32) (fun r7 C9 => post r7 C9)) ∧ (¬ ((C5 5 0 5) = 0) → post (C5 5 0 6) C5))))))
set_option maxRecDepth 100000 in
set_option maxHeartbeats 4000000 in
theorem kX5_yields (l : Launch) (g : Gl) (aK : Nat → Nat) (aV : Nat → Nat) (q : Nat → Nat → Nat) (sz : Nat) (C : Nat → Bun) (N : Nat → Lon) (a1 : Int32) (post : Int32 → (Nat → Bun) → Prop) (h : wX5_yields C N a1 post) : Met l yX5_yields wsX5_yields (rmm 24 720) (wPc g (E5 aK aV) ((wC g q) (C, N)) sz [.ref (q 0 0), .int a1]) (va_Qi (fun (r : Int32) (u : (Nat → Bun) × (Nat → Lon)) => u.2 = N ∧ post r u.1) (wB g (wC g q) (va_A ((wC g q) (C, N)) sz)) (va_A ((wC g q) (C, N)) sz)) 0 0 (va_A ((wC g q) (C, N)) sz) := by
  refine mstart (Qf := fun A => va_Qi (fun (r : Int32) (u : (Nat → Bun) × (Nat → Lon)) => u.2 = N ∧ post r u.1) (wB g (wC g q) A) A) (by decide) rfl (Nat.le_of_ble_eq_true rfl) ?_
  intro p e s m args below meth c A Q H locs ls hC hr hlocks hname hQ hA hK hE hw hl
  have hC : CallFix p m c cX5_yields 2 s args wsX5_yields RX5 := hC
  obtain ⟨hx, hb, -, hown, hts⟩ := id hC
  have hl : lv_has ls 2 [(0, .ref (q 0 0)), (1, .int a1)] := hl
  rw [wX5_yields] at h
  have hinX2 : ∀ w ∈ wsX20, w ∈ wsX5_yields := fun w hw9 => List.mem_cons_of_mem _ (List.mem_append_left _ (List.mem_append_left _ (List.mem_append_right _ hw9)))
  have hinX5 : ∀ w ∈ wsX50, w ∈ wsX5_yields := fun w hw9 => List.mem_cons_of_mem _ (List.mem_append_left _ (List.mem_append_left _ (List.mem_append_left _ (List.mem_append_right _ hw9))))
  refine lv_aload_n hx hb dX5_yields_0 rfl (lv_at hl 0 rfl) ?_
  refine O5_g0 hC hinX5 hK (hw.sub sC1O) (List.mem_of_getElem? (i := 1) rfl) dX5_yields_1 ?_
  refine lv_iload_n hx hb dX5_yields_4 rfl (lv_at hl 1 rfl) ?_
  refine mcalli (w1 := (fun u9 : Bun => wC g q (va_up C 1 u9, N))) (va_runVN (C := RX1) (As := [.int a1]) (rest := []) hC (kX1_hasTeam l g aK aV (q 1) H.size (C 1) a1 _ h) ⟨va_cnB 1 hts gX5_yields_X1_hasTeam_n116 rfl rfl rfl hE.nMX5_116 (hts (.initialized RX1) (List.mem_of_getElem? (i := 4) rfl)) (by decide +kernel) ⟨Nat.le_of_ble_eq_true rfl, Nat.le_of_ble_eq_true rfl⟩, (hts (.instanceMethod yX1_hasTeam) (List.mem_of_getElem? (i := 3) rfl)), (hts (.selects RX1 yX1_hasTeam yX1_hasTeam) (List.mem_of_getElem? (i := 5) rfl))⟩ (mpreV (E5_ok aK aV) hK hE hA hw (sC1P isP1) 0 rfl rfl) rfl rfl hl.1 rfl (lv_room (Nat.le_of_ble_eq_true rfl)) dX5_yields_5 ⟨Nat.zero_le _, Nat.zero_le _⟩) hA hw (sC1P isP1) (fun u9 => sCP isP1 u9) (fun r1 u2 H locs h hw => ?_)
  obtain ⟨hu, h⟩ := h
  replace hu := hu.symm
  subst hu
  replace hw : Wd g.1 A s.heap ((wC g q) (C, N)) H locs := by first | exact hw | (simpa only [up_self] using hw)
  refine lv_if_ne (tgt := 17) hx hb dX5_yields_8 (by decide) (fun c16 => ?_) (fun c16 => ?_)
  · replace h := h.2 c16
    refine lv_aload_n hx hb dX5_yields_17 rfl (lv_at hl 0 rfl) ?_
    refine lv_iload_n hx hb dX5_yields_18 rfl (lv_at hl 1 rfl) ?_
    refine mcallv (w1 := (wC g q)) (va_runV (As := [.int a1]) (rest := []) hC (kX5_goThrough l g aK aV q H.size C N a1 _ h) (cwV 1 hts gX5_yields_X5_goThrough rfl rfl rfl (by decide +kernel) ⟨Nat.le_of_ble_eq_true rfl, Nat.le_of_ble_eq_true rfl⟩) (mpreV (E5_ok aK aV) hK hE hA hw (Sub1.refl _) 0 rfl rfl) rfl rfl hl.1 rfl (lv_room (Nat.le_of_ble_eq_true rfl)) dX5_yields_19 ⟨Nat.zero_le _, Nat.zero_le _⟩) hA hw (Sub1.refl _) (fun u9 => Sub.whole (wC_map u9.1 u9.2)) (fun u4 H locs h hw => ?_)
    obtain ⟨C5, N6⟩ := u4
    obtain ⟨hu, h⟩ := h
    replace hu : N = N6 := hu.symm
    subst hu
    refine lv_aload_n hx hb dX5_yields_22 rfl (lv_at hl 0 rfl) ?_
    refine O5_g9 hC hinX5 hK (hw.sub sC1O) (List.mem_of_getElem? (i := 2) rfl) dX5_yields_23 ?_
    refine R5_rg5 hC hinX2 hK (hw.sub sC1R) hE.nFX5_186 dX5_yields_26 ?_
    refine lv_if_ne (tgt := 40) hx hb dX5_yields_29 (by decide) (fun c11 => ?_) (fun c11 => ?_)
    · replace h := h.2 c11
      refine lv_aload_n hx hb dX5_yields_40 rfl (lv_at hl 0 rfl) ?_
      refine O5_g9 hC hinX5 hK (hw.sub sC1O) (List.mem_of_getElem? (i := 2) rfl) dX5_yields_41 ?_
      refine R5_rg6 hC hinX2 hK (hw.sub sC1R) hE.nFX5_201 dX5_yields_44 ?_
      rw [hQ]
      exact mreti (w := (wC g q)) (u := (C5, N)) hC hr hlocks hK hw ⟨rfl, h⟩ dX5_yields_47
    · replace h := h.1 c11
      refine lv_aload_n hx hb dX5_yields_32 rfl (lv_at hl 0 rfl) ?_
      refine lv_iconst (v := (3 : Int32)) hx hb dX5_yields_33 (by decide) ?_
      refine mcalli (w1 := (wC g q)) (va_runV (As := [.int (3 : Int32)]) (rest := []) hC (kX5_finding l g aK aV q H.size C5 N (3 : Int32) _ h) (cwV 1 hts gX5_yields_X5_finding rfl rfl rfl (by decide +kernel) ⟨Nat.le_of_ble_eq_true rfl, Nat.le_of_ble_eq_true rfl⟩) (mpreV (E5_ok aK aV) hK hE hA hw (Sub1.refl _) 0 rfl rfl) rfl rfl hl.1 rfl (lv_room (Nat.le_of_ble_eq_true rfl)) dX5_yields_34 ⟨Nat.zero_le _, Nat.zero_le _⟩) hA hw (Sub1.refl _) (fun u9 => Sub.whole (wC_map u9.1 u9.2)) (fun r7 u8 H locs h hw => ?_)
      obtain ⟨C9, N10⟩ := u8
      obtain ⟨hu, h⟩ := h
      replace hu : N = N10 := hu.symm
      subst hu
      refine lv_goto (tgt := 47) hx hb dX5_yields_37 (by decide) ?_
      rw [hQ]
      exact mreti (w := (wC g q)) (u := (C9, N)) hC hr hlocks hK hw ⟨rfl, h⟩ dX5_yields_47
  · replace h := h.1 c16
    refine lv_aload_n hx hb dX5_yields_11 rfl (lv_at hl 0 rfl) ?_
    refine lv_iconst (v := (0 : Int32)) hx hb dX5_yields_12 (by decide) ?_
    refine mcalli (w1 := (wC g q)) (va_runV (As := [.int (0 : Int32)]) (rest := []) hC (kX5_finding l g aK aV q H.size C N (0 : Int32) _ h) (cwV 1 hts gX5_yields_X5_finding rfl rfl rfl (by decide +kernel) ⟨Nat.le_of_ble_eq_true rfl, Nat.le_of_ble_eq_true rfl⟩) (mpreV (E5_ok aK aV) hK hE hA hw (Sub1.refl _) 0 rfl rfl) rfl rfl hl.1 rfl (lv_room (Nat.le_of_ble_eq_true rfl)) dX5_yields_13 ⟨Nat.zero_le _, Nat.zero_le _⟩) hA hw (Sub1.refl _) (fun u9 => Sub.whole (wC_map u9.1 u9.2)) (fun r12 u13 H locs h hw => ?_)
    obtain ⟨C14, N15⟩ := u13
    obtain ⟨hu, h⟩ := h
    replace hu : N = N15 := hu.symm
    subst hu
    rw [hQ]
    exact mreti (w := (wC g q)) (u := (C14, N)) hC hr hlocks hK hw ⟨rfl, h⟩ dX5_yields_16
def wX5_takeRow (C : Nat → Bun) (N : Nat → Lon) (a1 : Int32) (a2 : Int32) (post : Int32 → (Nat → Bun) → Prop) : Prop :=
  ∀ x1 : Int32, x1 = a2 - (1 : Int32) → wloop (σ := Int32 × Int32 × (Nat → Bun)) (fun K5 z => match z with | (x2, x3, C4) => ((x3 < 0 → ((a1 < 0 → post (0 : Int32) C4) ∧ (¬ (a1 < 0) → ((x2 = 0 → post (1 : Int32) C4) ∧ (¬ (x2 = 0) → post (0 : Int32) C4))))) ∧ (¬ (x3 < 0) → vp_in x3 6 ∧ ∀ C13 : Nat → Bun, C13 = va_up C4 0 (up (C4 0) 11 x3.toNatClampNeg (x2 - x2 / (6 : Int32) * (6 : Int32))) → ∀ x14 : Int32, x14 = x2 / (6 : Int32) → vp_in x3 6 ∧ wX1_hasField (C13 1) (C13 0 11 x3.toNatClampNeg) (fun r15 => ((r15 = 0 → post (0 : Int32) C13) ∧ (¬ (r15 = 0) → ∀ x17 : Int32, x17 = x3 + (-1 : Int32) → K5 (x14, x17, C13))))))) (a1, x1, C)
set_option maxRecDepth 100000 in
set_option maxHeartbeats 4000000 in
theorem kX5_takeRow (l : Launch) (g : Gl) (aK : Nat → Nat) (aV : Nat → Nat) (q : Nat → Nat → Nat) (sz : Nat) (C : Nat → Bun) (N : Nat → Lon) (a1 : Int32) (a2 : Int32) (post : Int32 → (Nat → Bun) → Prop) (h : wX5_takeRow C N a1 a2 post) : Met l yX5_takeRow wsX5_takeRow (rmm 1 21) (wPc g (E5 aK aV) ((wC g q) (C, N)) sz [.ref (q 0 0), .int a1, .int a2]) (va_Qi (fun (r : Int32) (u : (Nat → Bun) × (Nat → Lon)) => u.2 = N ∧ post r u.1) (wB g (wC g q) (va_A ((wC g q) (C, N)) sz)) (va_A ((wC g q) (C, N)) sz)) 0 0 (va_A ((wC g q) (C, N)) sz) := by
  refine mstart (Qf := fun A => va_Qi (fun (r : Int32) (u : (Nat → Bun) × (Nat → Lon)) => u.2 = N ∧ post r u.1) (wB g (wC g q) A) A) (by decide) rfl (Nat.le_of_ble_eq_true rfl) ?_
  intro p e s m args below meth c A Q H locs ls hC hr hlocks hname hQ hA hK hE hw hl
  have hC : CallFix p m c cX5_takeRow 5 s args wsX5_takeRow RX5 := hC
  obtain ⟨hx, hb, -, hown, hts⟩ := id hC
  have hl : lv_has ls 5 [(0, .ref (q 0 0)), (1, .int a1), (2, .int a2)] := hl
  rw [wX5_takeRow] at h
  have hinX5 : ∀ w ∈ wsX50, w ∈ wsX5_takeRow := fun w hw9 => List.mem_cons_of_mem _ (List.mem_append_left _ (List.mem_append_right _ hw9))
  refine lv_iload_n hx hb dX5_takeRow_0 rfl (lv_at hl 1 rfl) ?_
  refine lv_istore_n (lv' := [(3, .int a1), (0, .ref (q 0 0)), (1, .int a1), (2, .int a2)]) hx hb dX5_takeRow_1 rfl hl (by decide) rfl (fun ls hl => ?_)
  refine lv_iload_n hx hb dX5_takeRow_2 rfl (lv_at hl 3 rfl) ?_
  refine lv_iconst (v := (1 : Int32)) hx hb dX5_takeRow_3 (by decide) ?_
  refine lv_isub hx hb dX5_takeRow_4 ?_
  refine lv_topi (fun x1 ex1 => ?_)
  replace h := h x1 ex1
  refine lv_istore (lv' := [(4, .int x1), (3, .int a1), (0, .ref (q 0 0)), (1, .int a1), (2, .int a2)]) hx hb dX5_takeRow_5 hl (by decide) rfl (fun ls hl => ?_)
  refine h (fun z => match z with | (x2, x3, C4) => ∀ (H : Heap) (locs : List Loc) (ls : Array Slot), Wd g.1 A s.heap ((wC g q) (C4, N)) H locs → lv_has ls 5 [(0, .ref (q 0 0)), (1, .int a1), (3, .int x2), (4, .int x3)] → W p l e (rmm 1 21) s m args below meth c H locs 0 0 Q (F0 m 7 ls [])) ?_ _ _ _ hw (lv_sub hl [2, 3, 1, 0] rfl)
  clear h hw hl
  rintro ⟨x2, x3, C4⟩ h H locs ls hw hl
  refine lv_iload hx hb dX5_takeRow_7 (lv_at hl 3 rfl) ?_
  refine lv_if_lt (tgt := 53) hx hb dX5_takeRow_9 (by decide) (fun c20 => ?_) (fun c20 => ?_)
  · replace h := h.1 c20
    refine lv_iload_n hx hb dX5_takeRow_53 rfl (lv_at hl 1 rfl) ?_
    refine lv_if_lt (tgt := 65) hx hb dX5_takeRow_54 (by decide) (fun c12 => ?_) (fun c12 => ?_)
    · replace h := h.1 c12
      refine lv_iconst (v := (0 : Int32)) hx hb dX5_takeRow_65 (by decide) ?_
      rw [hQ]
      exact mretz (w := (wC g q)) (u := (C4, N)) hC hr hlocks hK hw (Or.inl rfl) ⟨rfl, h⟩ dX5_takeRow_66
    · replace h := h.2 c12
      refine lv_iload_n hx hb dX5_takeRow_57 rfl (lv_at hl 2 rfl) ?_
      refine lv_if_ne (tgt := 65) hx hb dX5_takeRow_58 (by decide) (fun c11 => ?_) (fun c11 => ?_)
      · replace h := h.2 c11
        refine lv_iconst (v := (0 : Int32)) hx hb dX5_takeRow_65 (by decide) ?_
        rw [hQ]
        exact mretz (w := (wC g q)) (u := (C4, N)) hC hr hlocks hK hw (Or.inl rfl) ⟨rfl, h⟩ dX5_takeRow_66
      · replace h := h.1 c11
        refine lv_iconst (v := (1 : Int32)) hx hb dX5_takeRow_61 (by decide) ?_
        refine lv_goto (tgt := 66) hx hb dX5_takeRow_62 (by decide) ?_
        rw [hQ]
        exact mretz (w := (wC g q)) (u := (C4, N)) hC hr hlocks hK hw (Or.inr rfl) ⟨rfl, h⟩ dX5_takeRow_66
  · replace h := h.2 c20
    refine lv_aload_n hx hb dX5_takeRow_12 rfl (lv_at hl 0 rfl) ?_
    refine O5_g10 hC hinX5 hK (hw.sub sC1O) (List.mem_of_getElem? (i := 1) rfl) dX5_takeRow_13 ?_
    refine lv_iload hx hb dX5_takeRow_16 (lv_at hl 3 rfl) ?_
    refine lv_iload_n hx hb dX5_takeRow_18 rfl (lv_at hl 2 rfl) ?_
    refine lv_bipush (v := (6 : Int32)) hx hb dX5_takeRow_19 (by decide) ?_
    refine lv_irem hx hb dX5_takeRow_21 (by decide) ?_
    obtain ⟨hi, h⟩ := h
    refine C_s0_10 hC hK hw hi dX5_takeRow_22 (fun C13 H locs eC13 hw => ?_)
    replace h := h C13 eC13
    refine lv_iload_n hx hb dX5_takeRow_23 rfl (lv_at hl 2 rfl) ?_
    refine lv_bipush (v := (6 : Int32)) hx hb dX5_takeRow_24 (by decide) ?_
    refine lv_idiv hx hb dX5_takeRow_26 (by decide) ?_
    refine lv_topi (fun x14 ex14 => ?_)
    replace h := h x14 ex14
    refine lv_istore_n (lv' := [(3, .int x14), (0, .ref (q 0 0)), (1, .int a1), (4, .int x3)]) hx hb dX5_takeRow_27 rfl hl (by decide) rfl (fun ls hl => ?_)
    refine lv_aload_n hx hb dX5_takeRow_28 rfl (lv_at hl 1 rfl) ?_
    refine O5_g0 hC hinX5 hK (hw.sub sC1O) (List.mem_of_getElem? (i := 2) rfl) dX5_takeRow_29 ?_
    refine lv_aload_n hx hb dX5_takeRow_32 rfl (lv_at hl 1 rfl) ?_
    refine O5_g10 hC hinX5 hK (hw.sub sC1O) (List.mem_of_getElem? (i := 1) rfl) dX5_takeRow_33 ?_
    refine lv_iload hx hb dX5_takeRow_36 (lv_at hl 3 rfl) ?_
    obtain ⟨hi, h⟩ := h
    refine O5_l10 hC hK (hw.sub sC1O) hi dX5_takeRow_38 ?_
    refine mcalli (w1 := (fun u9 : Bun => wC g q (va_up C13 1 u9, N))) (va_runVN (C := RX1) (As := [.int (C13 0 11 x3.toNatClampNeg)]) (rest := []) hC (kX1_hasField l g aK aV (q 1) H.size (C13 1) (C13 0 11 x3.toNatClampNeg) _ h) ⟨va_cnB 1 hts gX5_takeRow_X1_hasField_n73 rfl rfl rfl hE.nMX5_73 (hts (.initialized RX1) (List.mem_of_getElem? (i := 4) rfl)) (by decide +kernel) ⟨Nat.le_of_ble_eq_true rfl, Nat.le_of_ble_eq_true rfl⟩, (hts (.instanceMethod yX1_hasField) (List.mem_of_getElem? (i := 3) rfl)), (hts (.selects RX1 yX1_hasField yX1_hasField) (List.mem_of_getElem? (i := 5) rfl))⟩ (mpreV (E5_ok aK aV) hK hE hA hw (sC1P isP1) 0 rfl rfl) rfl rfl hl.1 rfl (lv_room (Nat.le_of_ble_eq_true rfl)) dX5_takeRow_39 ⟨Nat.zero_le _, Nat.zero_le _⟩) hA hw (sC1P isP1) (fun u9 => sCP isP1 u9) (fun r15 u16 H locs h hw => ?_)
    obtain ⟨hu, h⟩ := h
    replace hu := hu.symm
    subst hu
    replace hw : Wd g.1 A s.heap ((wC g q) (C13, N)) H locs := by first | exact hw | (simpa only [up_self] using hw)
    refine lv_if_ne (tgt := 47) hx hb dX5_takeRow_42 (by decide) (fun c19 => ?_) (fun c19 => ?_)
    · replace h := h.2 c19
      obtain ⟨x17, ex17⟩ : ∃ y : Int32, y = x3 + (-1 : Int32) := ⟨_, rfl⟩
      refine lv_iinc (v := x17) (lv' := [(4, .int x17), (3, .int x14), (0, .ref (q 0 0)), (1, .int a1)]) hx hb dX5_takeRow_47 hl (k := 3) rfl (by rw [ex17]; rfl) (by decide) rfl (fun ls hl => ?_)
      replace h := h x17 ex17
      refine lv_goto (tgt := 7) hx hb dX5_takeRow_50 (by decide) ?_
      exact h _ _ _ hw (lv_sub hl [2, 3, 1, 0] rfl)
    · replace h := h.1 c19
      refine lv_iconst (v := (0 : Int32)) hx hb dX5_takeRow_45 (by decide) ?_
      rw [hQ]
      exact mretz (w := (wC g q)) (u := (C13, N)) hC hr hlocks hK hw (Or.inl rfl) ⟨rfl, h⟩ dX5_takeRow_46
def wX5_row (C : Nat → Bun) (N : Nat → Lon) (a1 : Int32) (a2 : Int32) (a3 : Int32) (post : Int32 → (Nat → Bun) → Prop) : Prop :=
  wX1_hasTeam (C 1) a1 (fun r1 => wjoin (σ := Nat → Bun) (fun C3 => wX5_finding C3 N (0 : Int32) (fun r7 C9 => post r7 C9)) (fun J4 => ((r1 = 0 → J4 C) ∧ (¬ (r1 = 0) → ((a3 < 0 → J4 C) ∧ (¬ (a3 < 0) → (((6 : Int32) < a3 → J4 C) ∧ (¬ ((6 : Int32) < a3) → wX5_takeRow C N a2 a3 (fun r11 C13 => ((r11 = 0 → J4 C13) ∧ (¬ (r11 = 0) → wloop (σ := Int32 × Int32 × (Nat → Bun)) (fun K18 z => match z with | (x15, x16, C17) => ((a3 ≤ x16 → post a3 C17) ∧ (¬ (a3 ≤ x16) → vp_in x16 6 ∧ ∀ x24 : Int32, x24 = C17 0 11 x16.toNatClampNeg → wjoin (σ := Int32) (fun y25 => ((y25 = 0 → post x16 C17) ∧ (¬ (y25 = 0) → wX5_holds x15 x24 (fun r29 => ((r29 = 0 → wX5_furrowsOf C17 N a1 x24 (fun b33 C35 => (((C35 b33 0 6) = 0 → post x16 C35) ∧ (¬ ((C35 b33 0 6) = 0) → ∀ x36 : Int32, x36 = x15 ||| ((1 : Int32) <<< (x24 &&& 31)) → ∀ x37 : Int32, x37 = x16 + (1 : Int32) → K18 (x36, x37, C35))))) ∧ (¬ (r29 = 0) → post x16 C17)))))) (fun J26 => ((x16 = 0 → J26 (1 : Int32)) ∧ (¬ (x16 = 0) → vp_in (x16 - (1 : Int32)) 6 ∧ vp_in (C17 0 11 (x16 - (1 : Int32)).toNatClampNeg) 6 ∧ wX5_holds (C17 1 4 (C17 0 11 (x16 - (1 : Int32)).toNatClampNeg).toNatClampNeg) x24 (fun r42 => ((r42 = 0 → J26 (0 : Int32)) ∧ (¬ (r42 = 0) → J26 (1 : Int32)))))))))) ((0 : Int32), (0 : Int32), C13))))))))))))
set_option maxRecDepth 100000 in
set_option maxHeartbeats 4000000 in
theorem kX5_row (l : Launch) (g : Gl) (aK : Nat → Nat) (aV : Nat → Nat) (q : Nat → Nat → Nat) (sz : Nat) (C : Nat → Bun) (N : Nat → Lon) (a1 : Int32) (a2 : Int32) (a3 : Int32) (post : Int32 → (Nat → Bun) → Prop) (h : wX5_row C N a1 a2 a3 post) : Met l yX5_row wsX5_row (rmm 23 698) (wPc g (E5 aK aV) ((wC g q) (C, N)) sz [.ref (q 0 0), .int a1, .int a2, .int a3]) (va_Qi (fun (r : Int32) (u : (Nat → Bun) × (Nat → Lon)) => u.2 = N ∧ post r u.1) (wB g (wC g q) (va_A ((wC g q) (C, N)) sz)) (va_A ((wC g q) (C, N)) sz)) 0 0 (va_A ((wC g q) (C, N)) sz) := by
  refine mstart (Qf := fun A => va_Qi (fun (r : Int32) (u : (Nat → Bun) × (Nat → Lon)) => u.2 = N ∧ post r u.1) (wB g (wC g q) A) A) (by decide) rfl (Nat.le_of_ble_eq_true rfl) ?_
  intro p e s m args below meth c A Q H locs ls hC hr hlocks hname hQ hA hK hE hw hl
  have hC : CallFix p m c cX5_row 8 s args wsX5_row RX5 := hC
  obtain ⟨hx, hb, -, hown, hts⟩ := id hC
  have hl : lv_has ls 8 [(0, .ref (q 0 0)), (1, .int a1), (2, .int a2), (3, .int a3)] := hl
  rw [wX5_row] at h
  have hinX0 : ∀ w ∈ wsX00, w ∈ wsX5_row := fun w hw9 => List.mem_cons_of_mem _ (List.mem_append_right _ hw9)
  have hinX1 : ∀ w ∈ wsX10, w ∈ wsX5_row := fun w hw9 => List.mem_cons_of_mem _ (List.mem_append_left _ (List.mem_append_right _ hw9))
  have hinX5 : ∀ w ∈ wsX50, w ∈ wsX5_row := fun w hw9 => List.mem_cons_of_mem _ (List.mem_append_left _ (List.mem_append_left _ (List.mem_append_right _ hw9)))
  refine lv_aload_n hx hb dX5_row_0 rfl (lv_at hl 0 rfl) ?_
  refine O5_g0 hC hinX5 hK (hw.sub sC1O) (List.mem_of_getElem? (i := 1) rfl) dX5_row_1 ?_
  refine lv_iload_n hx hb dX5_row_4 rfl (lv_at hl 1 rfl) ?_
  refine mcalli (w1 := (fun u9 : Bun => wC g q (va_up C 1 u9, N))) (va_runVN (C := RX1) (As := [.int a1]) (rest := []) hC (kX1_hasTeam l g aK aV (q 1) H.size (C 1) a1 _ h) ⟨va_cnB 1 hts gX5_row_X1_hasTeam_n116 rfl rfl rfl hE.nMX5_116 (hts (.initialized RX1) (List.mem_of_getElem? (i := 4) rfl)) (by decide +kernel) ⟨Nat.le_of_ble_eq_true rfl, Nat.le_of_ble_eq_true rfl⟩, (hts (.instanceMethod yX1_hasTeam) (List.mem_of_getElem? (i := 3) rfl)), (hts (.selects RX1 yX1_hasTeam yX1_hasTeam) (List.mem_of_getElem? (i := 5) rfl))⟩ (mpreV (E5_ok aK aV) hK hE hA hw (sC1P isP1) 0 rfl rfl) rfl rfl hl.1 rfl (lv_room (Nat.le_of_ble_eq_true rfl)) dX5_row_5 ⟨Nat.zero_le _, Nat.zero_le _⟩) hA hw (sC1P isP1) (fun u9 => sCP isP1 u9) (fun r1 u2 H locs h hw => ?_)
  obtain ⟨hu, h⟩ := h
  replace hu := hu.symm
  subst hu
  replace hw : Wd g.1 A s.heap ((wC g q) (C, N)) H locs := by first | exact hw | (simpa only [up_self] using hw)
  obtain ⟨J4, hJ5, h⟩ := h
  have join6 : ∀ (C3 : Nat → Bun) (H : Heap) (locs : List Loc) (ls : Array Slot), J4 C3 → Wd g.1 A s.heap ((wC g q) (C3, N)) H locs → lv_has ls 8 [(0, .ref (q 0 0))] → W p l e (rmm 23 698) s m args below meth c H locs 0 0 Q (F0 m 30 ls []) := by
    intro C3 H locs ls h hw hl
    replace h := hJ5 C3 h
    refine lv_aload_n hx hb dX5_row_30 rfl (lv_at hl 0 rfl) ?_
    refine lv_iconst (v := (0 : Int32)) hx hb dX5_row_31 (by decide) ?_
    refine mcalli (w1 := (wC g q)) (va_runV (As := [.int (0 : Int32)]) (rest := []) hC (kX5_finding l g aK aV q H.size C3 N (0 : Int32) _ h) (cwV 1 hts gX5_row_X5_finding rfl rfl rfl (by decide +kernel) ⟨Nat.le_of_ble_eq_true rfl, Nat.le_of_ble_eq_true rfl⟩) (mpreV (E5_ok aK aV) hK hE hA hw (Sub1.refl _) 0 rfl rfl) rfl rfl hl.1 rfl (lv_room (Nat.le_of_ble_eq_true rfl)) dX5_row_32 ⟨Nat.zero_le _, Nat.zero_le _⟩) hA hw (Sub1.refl _) (fun u9 => Sub.whole (wC_map u9.1 u9.2)) (fun r7 u8 H locs h hw => ?_)
    obtain ⟨C9, N10⟩ := u8
    obtain ⟨hu, h⟩ := h
    replace hu : N = N10 := hu.symm
    subst hu
    rw [hQ]
    exact mreti (w := (wC g q)) (u := (C9, N)) hC hr hlocks hK hw ⟨rfl, h⟩ dX5_row_35
  refine lv_if_eq (tgt := 30) hx hb dX5_row_8 (by decide) (fun c50 => ?_) (fun c50 => ?_)
  · replace h := h.1 c50
    exact join6 C _ _ _ h hw (lv_sub hl [0] rfl)
  · replace h := h.2 c50
    refine lv_iload_n hx hb dX5_row_11 rfl (lv_at hl 3 rfl) ?_
    refine lv_if_lt (tgt := 30) hx hb dX5_row_12 (by decide) (fun c49 => ?_) (fun c49 => ?_)
    · replace h := h.1 c49
      exact join6 C _ _ _ h hw (lv_sub hl [0] rfl)
    · replace h := h.2 c49
      refine lv_iload_n hx hb dX5_row_15 rfl (lv_at hl 3 rfl) ?_
      refine lv_bipush (v := (6 : Int32)) hx hb dX5_row_16 (by decide) ?_
      refine lv_icmp_gt (tgt := 30) hx hb dX5_row_18 (by decide) (fun c48 => ?_) (fun c48 => ?_)
      · replace h := h.1 c48
        exact join6 C _ _ _ h hw (lv_sub hl [0] rfl)
      · replace h := h.2 c48
        refine lv_aload_n hx hb dX5_row_21 rfl (lv_at hl 0 rfl) ?_
        refine lv_iload_n hx hb dX5_row_22 rfl (lv_at hl 2 rfl) ?_
        refine lv_iload_n hx hb dX5_row_23 rfl (lv_at hl 3 rfl) ?_
        refine mcalli (w1 := (wC g q)) (va_runV (As := [.int a2, .int a3]) (rest := []) hC (kX5_takeRow l g aK aV q H.size C N a2 a3 _ h) (cwV 2 hts gX5_row_X5_takeRow rfl rfl rfl (by decide +kernel) ⟨Nat.le_of_ble_eq_true rfl, Nat.le_of_ble_eq_true rfl⟩) (mpreV (E5_ok aK aV) hK hE hA hw (Sub1.refl _) 0 rfl rfl) rfl rfl hl.1 rfl (lv_room (Nat.le_of_ble_eq_true rfl)) dX5_row_24 ⟨Nat.zero_le _, Nat.zero_le _⟩) hA hw (Sub1.refl _) (fun u9 => Sub.whole (wC_map u9.1 u9.2)) (fun r11 u12 H locs h hw => ?_)
        obtain ⟨C13, N14⟩ := u12
        obtain ⟨hu, h⟩ := h
        replace hu : N = N14 := hu.symm
        subst hu
        refine lv_if_ne (tgt := 36) hx hb dX5_row_27 (by decide) (fun c47 => ?_) (fun c47 => ?_)
        · replace h := h.2 c47
          refine lv_iconst (v := (0 : Int32)) hx hb dX5_row_36 (by decide) ?_
          refine lv_istore (lv' := [(4, .int (0 : Int32)), (0, .ref (q 0 0)), (1, .int a1), (2, .int a2), (3, .int a3)]) hx hb dX5_row_37 hl (by decide) rfl (fun ls hl => ?_)
          refine lv_iconst (v := (0 : Int32)) hx hb dX5_row_39 (by decide) ?_
          refine lv_istore (lv' := [(5, .int (0 : Int32)), (4, .int (0 : Int32)), (0, .ref (q 0 0)), (1, .int a1), (2, .int a2), (3, .int a3)]) hx hb dX5_row_40 hl (by decide) rfl (fun ls hl => ?_)
          refine h (fun z => match z with | (x15, x16, C17) => ∀ (H : Heap) (locs : List Loc) (ls : Array Slot), Wd g.1 A s.heap ((wC g q) (C17, N)) H locs → lv_has ls 8 [(0, .ref (q 0 0)), (1, .int a1), (3, .int a3), (4, .int x15), (5, .int x16)] → W p l e (rmm 23 698) s m args below meth c H locs 0 0 Q (F0 m 42 ls [])) ?_ _ _ _ hw (lv_sub hl [2, 3, 5, 1, 0] rfl)
          clear h hw hl
          rintro ⟨x15, x16, C17⟩ h H locs ls hw hl
          refine lv_iload hx hb dX5_row_42 (lv_at hl 4 rfl) ?_
          refine lv_iload_n hx hb dX5_row_44 rfl (lv_at hl 2 rfl) ?_
          refine lv_icmp_ge (tgt := 140) hx hb dX5_row_45 (by decide) (fun c46 => ?_) (fun c46 => ?_)
          · replace h := h.1 c46
            refine lv_iload_n hx hb dX5_row_140 rfl (lv_at hl 2 rfl) ?_
            rw [hQ]
            exact mreti (w := (wC g q)) (u := (C17, N)) hC hr hlocks hK hw ⟨rfl, h⟩ dX5_row_141
          · replace h := h.2 c46
            refine lv_aload_n hx hb dX5_row_48 rfl (lv_at hl 0 rfl) ?_
            refine O5_g10 hC hinX5 hK (hw.sub sC1O) (List.mem_of_getElem? (i := 2) rfl) dX5_row_49 ?_
            refine lv_iload hx hb dX5_row_52 (lv_at hl 4 rfl) ?_
            obtain ⟨hi, h⟩ := h
            refine O5_l10 hC hK (hw.sub sC1O) hi dX5_row_54 ?_
            refine lv_topi (fun x24 ex24 => ?_)
            replace h := h x24 ex24
            refine lv_istore (lv' := [(6, .int x24), (0, .ref (q 0 0)), (1, .int a1), (3, .int a3), (4, .int x15), (5, .int x16)]) hx hb dX5_row_55 hl (by decide) rfl (fun ls hl => ?_)
            refine lv_iload hx hb dX5_row_57 (lv_at hl 5 rfl) ?_
            obtain ⟨J26, hJ27, h⟩ := h
            have join28 : ∀ (y25 : Int32) (H : Heap) (locs : List Loc) (ls : Array Slot), J26 y25 → Wd g.1 A s.heap ((wC g q) (C17, N)) H locs → lv_has ls 8 [(0, .ref (q 0 0)), (1, .int a1), (3, .int a3), (4, .int x15), (5, .int x16), (6, .int x24)] → W p l e (rmm 23 698) s m args below meth c H locs 0 0 Q (F0 m 92 ls [.int y25]) := by
              intro y25 H locs ls h hw hl
              replace h := hJ27 y25 h
              refine lv_istore (lv' := [(7, .int y25), (0, .ref (q 0 0)), (1, .int a1), (3, .int a3), (4, .int x15), (5, .int x16), (6, .int x24)]) hx hb dX5_row_92 hl (by decide) rfl (fun ls hl => ?_)
              refine lv_iload hx hb dX5_row_94 (lv_at hl 0 rfl) ?_
              refine lv_if_eq (tgt := 122) hx hb dX5_row_96 (by decide) (fun c41 => ?_) (fun c41 => ?_)
              · replace h := h.1 c41
                refine lv_iload hx hb dX5_row_122 (lv_at hl 5 rfl) ?_
                rw [hQ]
                exact mreti (w := (wC g q)) (u := (C17, N)) hC hr hlocks hK hw ⟨rfl, h⟩ dX5_row_124
              · replace h := h.2 c41
                refine lv_iload hx hb dX5_row_99 (lv_at hl 4 rfl) ?_
                refine lv_iload hx hb dX5_row_101 (lv_at hl 6 rfl) ?_
                refine mcalli (w1 := (fun _ => (wC g q) (C17, N))) (wc := fun _ : Unit => ([] : va_W)) (u := ()) (va_runS (As := [.int x15, .int x24]) (rest := []) hC (kX5_holds l g aK aV H.size x15 x24 _ h) (va_cwS 2 hts gX5_row_X5_holds rfl rfl rfl (by decide +kernel) ⟨Nat.le_of_ble_eq_true rfl, Nat.le_of_ble_eq_true rfl⟩) (mpre (E5_ok aK aV) hK hE hA hw (Sub1.nil _)) rfl rfl hl.1 rfl (lv_room (Nat.le_of_ble_eq_true rfl)) dX5_row_103 ⟨Nat.zero_le _, Nat.zero_le _⟩) hA hw (Sub1.nil _) (fun _ => Sub.nil _) (fun r29 u30 H locs h hw => ?_)
                obtain ⟨_, h⟩ := h
                refine lv_if_ne (tgt := 122) hx hb dX5_row_106 (by decide) (fun c40 => ?_) (fun c40 => ?_)
                · replace h := h.2 c40
                  refine lv_iload hx hb dX5_row_122 (lv_at hl 5 rfl) ?_
                  rw [hQ]
                  exact mreti (w := (wC g q)) (u := (C17, N)) hC hr hlocks hK hw ⟨rfl, h⟩ dX5_row_124
                · replace h := h.1 c40
                  refine lv_aload_n hx hb dX5_row_109 rfl (lv_at hl 1 rfl) ?_
                  refine lv_iload_n hx hb dX5_row_110 rfl (lv_at hl 2 rfl) ?_
                  refine lv_iload hx hb dX5_row_111 (lv_at hl 6 rfl) ?_
                  refine mcallr (va_runV (As := [.int a1, .int x24]) (rest := []) hC (kX5_furrowsOf l g aK aV q H.size C17 N a1 x24 _ h) (cwV 2 hts gX5_row_X5_furrowsOf rfl rfl rfl (by decide +kernel) ⟨Nat.le_of_ble_eq_true rfl, Nat.le_of_ble_eq_true rfl⟩) (mpreV (E5_ok aK aV) hK hE hA hw (Sub1.refl _) 0 rfl rfl) rfl rfl hl.1 rfl (lv_room (Nat.le_of_ble_eq_true rfl)) dX5_row_113 ⟨Nat.zero_le _, Nat.zero_le _⟩) hA hw (fun b33 C35 H locs hb34 h hw => ?_)
                  refine F5_fg6 hC hinX0 hK (hw.sub (sC1F hb34)) hE.nFX5_145 dX5_row_116 ?_
                  refine lv_if_ne (tgt := 125) hx hb dX5_row_119 (by decide) (fun c39 => ?_) (fun c39 => ?_)
                  · replace h := h.2 c39
                    refine lv_iload hx hb dX5_row_125 (lv_at hl 4 rfl) ?_
                    refine lv_iconst (v := (1 : Int32)) hx hb dX5_row_127 (by decide) ?_
                    refine lv_iload hx hb dX5_row_128 (lv_at hl 6 rfl) ?_
                    refine lv_ishl hx hb dX5_row_130 ?_
                    refine lv_ior hx hb dX5_row_131 ?_
                    refine lv_topi (fun x36 ex36 => ?_)
                    replace h := h x36 ex36
                    refine lv_istore (lv' := [(4, .int x36), (7, .int y25), (0, .ref (q 0 0)), (1, .int a1), (3, .int a3), (5, .int x16), (6, .int x24)]) hx hb dX5_row_132 hl (by decide) rfl (fun ls hl => ?_)
                    obtain ⟨x37, ex37⟩ : ∃ y : Int32, y = x16 + (1 : Int32) := ⟨_, rfl⟩
                    refine lv_iinc (v := x37) (lv' := [(5, .int x37), (4, .int x36), (7, .int y25), (0, .ref (q 0 0)), (1, .int a1), (3, .int a3), (6, .int x24)]) hx hb dX5_row_134 hl (k := 5) rfl (by rw [ex37]; rfl) (by decide) rfl (fun ls hl => ?_)
                    replace h := h x37 ex37
                    refine lv_goto (tgt := 42) hx hb dX5_row_137 (by decide) ?_
                    exact h _ _ _ hw (lv_sub hl [3, 4, 5, 1, 0] rfl)
                  · replace h := h.1 c39
                    refine lv_iload hx hb dX5_row_122 (lv_at hl 5 rfl) ?_
                    rw [hQ]
                    exact mreti (w := (wC g q)) (u := (C35, N)) hC hr hlocks hK hw ⟨rfl, h⟩ dX5_row_124
            refine lv_if_eq (tgt := 87) hx hb dX5_row_59 (by decide) (fun c45 => ?_) (fun c45 => ?_)
            · replace h := h.1 c45
              refine lv_iconst (v := (1 : Int32)) hx hb dX5_row_87 (by decide) ?_
              refine lv_goto (tgt := 92) hx hb dX5_row_88 (by decide) ?_
              exact join28 (1 : Int32) _ _ _ h hw (lv_sub hl [1, 2, 3, 4, 5, 0] rfl)
            · replace h := h.2 c45
              refine lv_aload_n hx hb dX5_row_62 rfl (lv_at hl 1 rfl) ?_
              refine O5_g0 hC hinX5 hK (hw.sub sC1O) (List.mem_of_getElem? (i := 1) rfl) dX5_row_63 ?_
              refine P5_pg3 hC hinX1 hK (hw.sub (sC1P isP1)) hE.nFX5_97 dX5_row_66 ?_
              refine lv_aload_n hx hb dX5_row_69 rfl (lv_at hl 1 rfl) ?_
              refine O5_g10 hC hinX5 hK (hw.sub sC1O) (List.mem_of_getElem? (i := 2) rfl) dX5_row_70 ?_
              refine lv_iload hx hb dX5_row_73 (lv_at hl 5 rfl) ?_
              refine lv_iconst (v := (1 : Int32)) hx hb dX5_row_75 (by decide) ?_
              refine lv_isub hx hb dX5_row_76 ?_
              obtain ⟨hi, h⟩ := h
              refine O5_l10 hC hK (hw.sub sC1O) hi dX5_row_77 ?_
              obtain ⟨hi, h⟩ := h
              refine P5_pl3 hC hK (hw.sub (sC1P isP1)) hi dX5_row_78 ?_
              refine lv_iload hx hb dX5_row_79 (lv_at hl 0 rfl) ?_
              refine mcalli (w1 := (fun _ => (wC g q) (C17, N))) (wc := fun _ : Unit => ([] : va_W)) (u := ()) (va_runS (As := [.int (C17 1 4 (C17 0 11 (x16 - (1 : Int32)).toNatClampNeg).toNatClampNeg), .int x24]) (rest := []) hC (kX5_holds l g aK aV H.size (C17 1 4 (C17 0 11 (x16 - (1 : Int32)).toNatClampNeg).toNatClampNeg) x24 _ h) (va_cwS 2 hts gX5_row_X5_holds rfl rfl rfl (by decide +kernel) ⟨Nat.le_of_ble_eq_true rfl, Nat.le_of_ble_eq_true rfl⟩) (mpre (E5_ok aK aV) hK hE hA hw (Sub1.nil _)) rfl rfl hl.1 rfl (lv_room (Nat.le_of_ble_eq_true rfl)) dX5_row_81 ⟨Nat.zero_le _, Nat.zero_le _⟩) hA hw (Sub1.nil _) (fun _ => Sub.nil _) (fun r42 u43 H locs h hw => ?_)
              obtain ⟨_, h⟩ := h
              refine lv_if_eq (tgt := 91) hx hb dX5_row_84 (by decide) (fun c44 => ?_) (fun c44 => ?_)
              · replace h := h.1 c44
                refine lv_iconst (v := (0 : Int32)) hx hb dX5_row_91 (by decide) ?_
                exact join28 (0 : Int32) _ _ _ h hw (lv_sub hl [1, 2, 3, 4, 5, 0] rfl)
              · replace h := h.2 c44
                refine lv_iconst (v := (1 : Int32)) hx hb dX5_row_87 (by decide) ?_
                refine lv_goto (tgt := 92) hx hb dX5_row_88 (by decide) ?_
                exact join28 (1 : Int32) _ _ _ h hw (lv_sub hl [1, 2, 3, 4, 5, 0] rfl)
        · replace h := h.1 c47
          exact join6 C13 _ _ _ h hw (lv_sub hl [0] rfl)
def wX5_lacks (C : Nat → Bun) (N : Nat → Lon) (a1 : Int32) (post : Int32 → (Nat → Bun) → Prop) : Prop :=
  wX1_hasTeam (C 1) a1 (fun r1 => ((r1 = 0 → wX5_finding C N (0 : Int32) (fun r64 C66 => post r64 C66)) ∧ (¬ (r1 = 0) → wX5_goThrough C N a1 (fun C5 => wloop (σ := Int32 × Int32 × Int32 × (Nat → Bun)) (fun K11 z => match z with | (x7, x8, x9, C10) => (((C10 1 0 0) ≤ x9 → ((0 ≤ x8 → post x8 C10) ∧ (¬ (0 ≤ x8) → wX5_finding C10 N (3 : Int32) (fun r17 C19 => post r17 C19)))) ∧ (¬ ((C10 1 0 0) ≤ x9) → wloop (σ := Int32 × Int32 × Int32 × (Nat → Bun)) (fun K26 z => match z with | (x22, x23, x24, C25) => (((C25 1 0 0) ≤ x24 → ∀ x32 : Int32, x32 = x9 + (1 : Int32) → K11 (x22, x23, x32, C25)) ∧ (¬ ((C25 1 0 0) ≤ x24) → ((x9 = x24 → ∀ x34 : Int32, x34 = x24 + (1 : Int32) → K26 (x22, x23, x34, C25)) ∧ (¬ (x9 = x24) → vp_in x9 6 ∧ wX5_holds (C25 1 4 x9.toNatClampNeg) x24 (fun r36 => ((r36 = 0 → vp_in x9 6 ∧ vp_in x9 6 ∧ ∀ C38 : Nat → Bun, C38 = va_up C25 5 (up (C25 5) 5 x9.toNatClampNeg ((C25 5 5 x9.toNatClampNeg) ||| ((1 : Int32) <<< (x24 &&& 31)))) → wX2_search (C38 5)  (fun S42 => ∀ C41 : Nat → Bun, C41 = va_up C38 5 S42 → vp_in x9 6 ∧ vp_in x9 6 ∧ ∀ C43 : Nat → Bun, C43 = va_up C41 5 (up (C41 5) 5 x9.toNatClampNeg (C41 1 4 x9.toNatClampNeg)) → (((C43 5 0 5) ≤ 0 → ∀ x44 : Int32, x44 = x24 + (1 : Int32) → K26 (x22, x23, x44, C43)) ∧ (¬ ((C43 5 0 5) ≤ 0) → wjoin (σ := Unit) (fun _ => ∀ x49 : Int32, x49 = C43 5 0 7 → ∀ x50 : Int32, x50 = ((10 : Int32) * x9) + x24 → ∀ x51 : Int32, x51 = x24 + (1 : Int32) → K26 (x49, x50, x51, C43)) (fun J46 => ((x23 < 0 → J46 ()) ∧ (¬ (x23 < 0) → ((x22 ≤ (C43 5 0 7) → ∀ x53 : Int32, x53 = x24 + (1 : Int32) → K26 (x22, x23, x53, C43)) ∧ (¬ (x22 ≤ (C43 5 0 7)) → J46 ()))))))))) ∧ (¬ (r36 = 0) → ∀ x58 : Int32, x58 = x24 + (1 : Int32) → K26 (x22, x23, x58, C25))))))))) (x7, x8, (0 : Int32), C10)))) ((0 : Int32), (-1 : Int32), (0 : Int32), C5)))))
set_option maxRecDepth 100000 in
set_option maxHeartbeats 4000000 in
theorem kX5_lacks (l : Launch) (g : Gl) (aK : Nat → Nat) (aV : Nat → Nat) (q : Nat → Nat → Nat) (sz : Nat) (C : Nat → Bun) (N : Nat → Lon) (a1 : Int32) (post : Int32 → (Nat → Bun) → Prop) (h : wX5_lacks C N a1 post) : Met l yX5_lacks wsX5_lacks (rmm 24 720) (wPc g (E5 aK aV) ((wC g q) (C, N)) sz [.ref (q 0 0), .int a1]) (va_Qi (fun (r : Int32) (u : (Nat → Bun) × (Nat → Lon)) => u.2 = N ∧ post r u.1) (wB g (wC g q) (va_A ((wC g q) (C, N)) sz)) (va_A ((wC g q) (C, N)) sz)) 0 0 (va_A ((wC g q) (C, N)) sz) := by
  refine mstart (Qf := fun A => va_Qi (fun (r : Int32) (u : (Nat → Bun) × (Nat → Lon)) => u.2 = N ∧ post r u.1) (wB g (wC g q) A) A) (by decide) rfl (Nat.le_of_ble_eq_true rfl) ?_
  intro p e s m args below meth c A Q H locs ls hC hr hlocks hname hQ hA hK hE hw hl
  have hC : CallFix p m c cX5_lacks 6 s args wsX5_lacks RX5 := hC
  obtain ⟨hx, hb, -, hown, hts⟩ := id hC
  have hl : lv_has ls 6 [(0, .ref (q 0 0)), (1, .int a1)] := hl
  rw [wX5_lacks] at h
  have hinX1 : ∀ w ∈ wsX10, w ∈ wsX5_lacks := fun w hw9 => List.mem_cons_of_mem _ (List.mem_append_left _ (List.mem_append_left _ (List.mem_append_right _ hw9)))
  have hinX2 : ∀ w ∈ wsX20, w ∈ wsX5_lacks := fun w hw9 => List.mem_cons_of_mem _ (List.mem_append_left _ (List.mem_append_right _ hw9))
  have hinX5 : ∀ w ∈ wsX50, w ∈ wsX5_lacks := fun w hw9 => List.mem_cons_of_mem _ (List.mem_append_left _ (List.mem_append_left _ (List.mem_append_left _ (List.mem_append_right _ hw9))))
  refine lv_aload_n hx hb dX5_lacks_0 rfl (lv_at hl 0 rfl) ?_
  refine O5_g0 hC hinX5 hK (hw.sub sC1O) (List.mem_of_getElem? (i := 1) rfl) dX5_lacks_1 ?_
  refine lv_iload_n hx hb dX5_lacks_4 rfl (lv_at hl 1 rfl) ?_
  refine mcalli (w1 := (fun u9 : Bun => wC g q (va_up C 1 u9, N))) (va_runVN (C := RX1) (As := [.int a1]) (rest := []) hC (kX1_hasTeam l g aK aV (q 1) H.size (C 1) a1 _ h) ⟨va_cnB 1 hts gX5_lacks_X1_hasTeam_n116 rfl rfl rfl hE.nMX5_116 (hts (.initialized RX1) (List.mem_of_getElem? (i := 4) rfl)) (by decide +kernel) ⟨Nat.le_of_ble_eq_true rfl, Nat.le_of_ble_eq_true rfl⟩, (hts (.instanceMethod yX1_hasTeam) (List.mem_of_getElem? (i := 3) rfl)), (hts (.selects RX1 yX1_hasTeam yX1_hasTeam) (List.mem_of_getElem? (i := 5) rfl))⟩ (mpreV (E5_ok aK aV) hK hE hA hw (sC1P isP1) 0 rfl rfl) rfl rfl hl.1 rfl (lv_room (Nat.le_of_ble_eq_true rfl)) dX5_lacks_5 ⟨Nat.zero_le _, Nat.zero_le _⟩) hA hw (sC1P isP1) (fun u9 => sCP isP1 u9) (fun r1 u2 H locs h hw => ?_)
  obtain ⟨hu, h⟩ := h
  replace hu := hu.symm
  subst hu
  replace hw : Wd g.1 A s.heap ((wC g q) (C, N)) H locs := by first | exact hw | (simpa only [up_self] using hw)
  refine lv_if_ne (tgt := 17) hx hb dX5_lacks_8 (by decide) (fun c68 => ?_) (fun c68 => ?_)
  · replace h := h.2 c68
    refine lv_aload_n hx hb dX5_lacks_17 rfl (lv_at hl 0 rfl) ?_
    refine lv_iload_n hx hb dX5_lacks_18 rfl (lv_at hl 1 rfl) ?_
    refine mcallv (w1 := (wC g q)) (va_runV (As := [.int a1]) (rest := []) hC (kX5_goThrough l g aK aV q H.size C N a1 _ h) (cwV 1 hts gX5_lacks_X5_goThrough rfl rfl rfl (by decide +kernel) ⟨Nat.le_of_ble_eq_true rfl, Nat.le_of_ble_eq_true rfl⟩) (mpreV (E5_ok aK aV) hK hE hA hw (Sub1.refl _) 0 rfl rfl) rfl rfl hl.1 rfl (lv_room (Nat.le_of_ble_eq_true rfl)) dX5_lacks_19 ⟨Nat.zero_le _, Nat.zero_le _⟩) hA hw (Sub1.refl _) (fun u9 => Sub.whole (wC_map u9.1 u9.2)) (fun u4 H locs h hw => ?_)
    obtain ⟨C5, N6⟩ := u4
    obtain ⟨hu, h⟩ := h
    replace hu : N = N6 := hu.symm
    subst hu
    refine lv_iconst (v := (0 : Int32)) hx hb dX5_lacks_22 (by decide) ?_
    refine lv_istore_n (lv' := [(2, .int (0 : Int32)), (0, .ref (q 0 0)), (1, .int a1)]) hx hb dX5_lacks_23 rfl hl (by decide) rfl (fun ls hl => ?_)
    refine lv_iconst (v := (-1 : Int32)) hx hb dX5_lacks_24 (by decide) ?_
    refine lv_istore_n (lv' := [(3, .int (-1 : Int32)), (2, .int (0 : Int32)), (0, .ref (q 0 0)), (1, .int a1)]) hx hb dX5_lacks_25 rfl hl (by decide) rfl (fun ls hl => ?_)
    refine lv_iconst (v := (0 : Int32)) hx hb dX5_lacks_26 (by decide) ?_
    refine lv_istore (lv' := [(4, .int (0 : Int32)), (3, .int (-1 : Int32)), (2, .int (0 : Int32)), (0, .ref (q 0 0)), (1, .int a1)]) hx hb dX5_lacks_27 hl (by decide) rfl (fun ls hl => ?_)
    refine h (fun z => match z with | (x7, x8, x9, C10) => ∀ (H : Heap) (locs : List Loc) (ls : Array Slot), Wd g.1 A s.heap ((wC g q) (C10, N)) H locs → lv_has ls 6 [(0, .ref (q 0 0)), (2, .int x7), (3, .int x8), (4, .int x9)] → W p l e (rmm 24 720) s m args below meth c H locs 0 0 Q (F0 m 29 ls [])) ?_ _ _ _ hw (lv_sub hl [3, 2, 1, 0] rfl)
    clear h hw hl
    rintro ⟨x7, x8, x9, C10⟩ h H locs ls hw hl
    refine lv_iload hx hb dX5_lacks_29 (lv_at hl 3 rfl) ?_
    refine lv_aload_n hx hb dX5_lacks_31 rfl (lv_at hl 0 rfl) ?_
    refine O5_g0 hC hinX5 hK (hw.sub sC1O) (List.mem_of_getElem? (i := 1) rfl) dX5_lacks_32 ?_
    refine P5_pg0 hC hinX1 hK (hw.sub (sC1P isP1)) hE.nFX5_61 dX5_lacks_35 ?_
    refine lv_icmp_ge (tgt := 182) hx hb dX5_lacks_38 (by decide) (fun c63 => ?_) (fun c63 => ?_)
    · replace h := h.1 c63
      refine lv_iload_n hx hb dX5_lacks_182 rfl (lv_at hl 2 rfl) ?_
      refine lv_if_ge (tgt := 194) hx hb dX5_lacks_183 (by decide) (fun c21 => ?_) (fun c21 => ?_)
      · replace h := h.1 c21
        refine lv_iload_n hx hb dX5_lacks_194 rfl (lv_at hl 2 rfl) ?_
        rw [hQ]
        exact mreti (w := (wC g q)) (u := (C10, N)) hC hr hlocks hK hw ⟨rfl, h⟩ dX5_lacks_195
      · replace h := h.2 c21
        refine lv_aload_n hx hb dX5_lacks_186 rfl (lv_at hl 0 rfl) ?_
        refine lv_iconst (v := (3 : Int32)) hx hb dX5_lacks_187 (by decide) ?_
        refine mcalli (w1 := (wC g q)) (va_runV (As := [.int (3 : Int32)]) (rest := []) hC (kX5_finding l g aK aV q H.size C10 N (3 : Int32) _ h) (cwV 1 hts gX5_lacks_X5_finding rfl rfl rfl (by decide +kernel) ⟨Nat.le_of_ble_eq_true rfl, Nat.le_of_ble_eq_true rfl⟩) (mpreV (E5_ok aK aV) hK hE hA hw (Sub1.refl _) 0 rfl rfl) rfl rfl hl.1 rfl (lv_room (Nat.le_of_ble_eq_true rfl)) dX5_lacks_188 ⟨Nat.zero_le _, Nat.zero_le _⟩) hA hw (Sub1.refl _) (fun u9 => Sub.whole (wC_map u9.1 u9.2)) (fun r17 u18 H locs h hw => ?_)
        obtain ⟨C19, N20⟩ := u18
        obtain ⟨hu, h⟩ := h
        replace hu : N = N20 := hu.symm
        subst hu
        refine lv_goto (tgt := 195) hx hb dX5_lacks_191 (by decide) ?_
        rw [hQ]
        exact mreti (w := (wC g q)) (u := (C19, N)) hC hr hlocks hK hw ⟨rfl, h⟩ dX5_lacks_195
    · replace h := h.2 c63
      refine lv_iconst (v := (0 : Int32)) hx hb dX5_lacks_41 (by decide) ?_
      refine lv_istore (lv' := [(5, .int (0 : Int32)), (0, .ref (q 0 0)), (2, .int x7), (3, .int x8), (4, .int x9)]) hx hb dX5_lacks_42 hl (by decide) rfl (fun ls hl => ?_)
      refine h (fun z => match z with | (x22, x23, x24, C25) => ∀ (H : Heap) (locs : List Loc) (ls : Array Slot), Wd g.1 A s.heap ((wC g q) (C25, N)) H locs → lv_has ls 6 [(0, .ref (q 0 0)), (2, .int x22), (3, .int x23), (4, .int x9), (5, .int x24)] → W p l e (rmm 24 720) s m args below meth c H locs 0 0 Q (F0 m 44 ls [])) ?_ _ _ _ hw (lv_sub hl [1, 2, 3, 4, 0] rfl)
      clear h hw hl
      rintro ⟨x22, x23, x24, C25⟩ h H locs ls hw hl
      refine lv_iload hx hb dX5_lacks_44 (lv_at hl 4 rfl) ?_
      refine lv_aload_n hx hb dX5_lacks_46 rfl (lv_at hl 0 rfl) ?_
      refine O5_g0 hC hinX5 hK (hw.sub sC1O) (List.mem_of_getElem? (i := 1) rfl) dX5_lacks_47 ?_
      refine P5_pg0 hC hinX1 hK (hw.sub (sC1P isP1)) hE.nFX5_61 dX5_lacks_50 ?_
      refine lv_icmp_ge (tgt := 176) hx hb dX5_lacks_53 (by decide) (fun c62 => ?_) (fun c62 => ?_)
      · replace h := h.1 c62
        obtain ⟨x32, ex32⟩ : ∃ y : Int32, y = x9 + (1 : Int32) := ⟨_, rfl⟩
        refine lv_iinc (v := x32) (lv' := [(4, .int x32), (0, .ref (q 0 0)), (2, .int x22), (3, .int x23), (5, .int x24)]) hx hb dX5_lacks_176 hl (k := 3) rfl (by rw [ex32]; rfl) (by decide) rfl (fun ls hl => ?_)
        replace h := h x32 ex32
        refine lv_goto (tgt := 29) hx hb dX5_lacks_179 (by decide) ?_
        exact h _ _ _ hw (lv_sub hl [1, 2, 3, 0] rfl)
      · replace h := h.2 c62
        refine lv_iload hx hb dX5_lacks_56 (lv_at hl 3 rfl) ?_
        refine lv_iload hx hb dX5_lacks_58 (lv_at hl 4 rfl) ?_
        refine lv_icmp_eq (tgt := 170) hx hb dX5_lacks_60 (by decide) (fun c61 => ?_) (fun c61 => ?_)
        · replace h := h.1 c61
          obtain ⟨x34, ex34⟩ : ∃ y : Int32, y = x24 + (1 : Int32) := ⟨_, rfl⟩
          refine lv_iinc (v := x34) (lv' := [(5, .int x34), (0, .ref (q 0 0)), (2, .int x22), (3, .int x23), (4, .int x9)]) hx hb dX5_lacks_170 hl (k := 4) rfl (by rw [ex34]; rfl) (by decide) rfl (fun ls hl => ?_)
          replace h := h x34 ex34
          refine lv_goto (tgt := 44) hx hb dX5_lacks_173 (by decide) ?_
          exact h _ _ _ hw (lv_sub hl [1, 2, 3, 4, 0] rfl)
        · replace h := h.2 c61
          refine lv_aload_n hx hb dX5_lacks_63 rfl (lv_at hl 0 rfl) ?_
          refine O5_g0 hC hinX5 hK (hw.sub sC1O) (List.mem_of_getElem? (i := 1) rfl) dX5_lacks_64 ?_
          refine P5_pg3 hC hinX1 hK (hw.sub (sC1P isP1)) hE.nFX5_97 dX5_lacks_67 ?_
          refine lv_iload hx hb dX5_lacks_70 (lv_at hl 3 rfl) ?_
          obtain ⟨hi, h⟩ := h
          refine P5_pl3 hC hK (hw.sub (sC1P isP1)) hi dX5_lacks_72 ?_
          refine lv_iload hx hb dX5_lacks_73 (lv_at hl 4 rfl) ?_
          refine mcalli (w1 := (fun _ => (wC g q) (C25, N))) (wc := fun _ : Unit => ([] : va_W)) (u := ()) (va_runS (As := [.int (C25 1 4 x9.toNatClampNeg), .int x24]) (rest := []) hC (kX5_holds l g aK aV H.size (C25 1 4 x9.toNatClampNeg) x24 _ h) (va_cwS 2 hts gX5_lacks_X5_holds rfl rfl rfl (by decide +kernel) ⟨Nat.le_of_ble_eq_true rfl, Nat.le_of_ble_eq_true rfl⟩) (mpre (E5_ok aK aV) hK hE hA hw (Sub1.nil _)) rfl rfl hl.1 rfl (lv_room (Nat.le_of_ble_eq_true rfl)) dX5_lacks_75 ⟨Nat.zero_le _, Nat.zero_le _⟩) hA hw (Sub1.nil _) (fun _ => Sub.nil _) (fun r36 u37 H locs h hw => ?_)
          obtain ⟨_, h⟩ := h
          refine lv_if_eq (tgt := 84) hx hb dX5_lacks_78 (by decide) (fun c60 => ?_) (fun c60 => ?_)
          · replace h := h.1 c60
            refine lv_aload_n hx hb dX5_lacks_84 rfl (lv_at hl 0 rfl) ?_
            refine O5_g9 hC hinX5 hK (hw.sub sC1O) (List.mem_of_getElem? (i := 2) rfl) dX5_lacks_85 ?_
            refine R5_rg4 hC hinX2 hK (hw.sub sC1R) hE.nFX5_207 dX5_lacks_88 ?_
            refine lv_iload hx hb dX5_lacks_91 (lv_at hl 3 rfl) ?_
            refine lv_dup2_11 hx hb dX5_lacks_93 rfl rfl ?_
            obtain ⟨hi, h⟩ := h
            refine R5_rl4 hC hK (hw.sub sC1R) hi dX5_lacks_94 ?_
            refine lv_iconst (v := (1 : Int32)) hx hb dX5_lacks_95 (by decide) ?_
            refine lv_iload hx hb dX5_lacks_96 (lv_at hl 4 rfl) ?_
            refine lv_ishl hx hb dX5_lacks_98 ?_
            refine lv_ior hx hb dX5_lacks_99 ?_
            obtain ⟨hi, h⟩ := h
            refine C_s5_4 hC hK hw hi dX5_lacks_100 (fun C38 H locs eC38 hw => ?_)
            replace h := h C38 eC38
            refine lv_aload_n hx hb dX5_lacks_101 rfl (lv_at hl 0 rfl) ?_
            refine O5_g9 hC hinX5 hK (hw.sub sC1O) (List.mem_of_getElem? (i := 2) rfl) dX5_lacks_102 ?_
            refine mcallv (w1 := (fun u9 : Bun => wC g q (va_up C38 5 u9, N))) (va_runVN (C := RX2) (As := []) (rest := []) hC (kX2_search l g aK aV (q 5) H.size (C38 5)  _ h) ⟨va_cnB 0 hts gX5_lacks_X2_search_n208 rfl rfl rfl hE.nMX5_208 (hts (.initialized RX2) (List.mem_of_getElem? (i := 126) rfl)) (by decide +kernel) ⟨Nat.le_of_ble_eq_true rfl, Nat.le_of_ble_eq_true rfl⟩, (hts (.instanceMethod yX2_search) (List.mem_of_getElem? (i := 125) rfl)), (hts (.selects RX2 yX2_search yX2_search) (List.mem_of_getElem? (i := 127) rfl))⟩ (mpreV (E5_ok aK aV) hK hE hA hw sC1R 0 rfl rfl) rfl rfl hl.1 rfl (lv_room (Nat.le_of_ble_eq_true rfl)) dX5_lacks_105 ⟨Nat.zero_le _, Nat.zero_le _⟩) hA hw sC1R (fun u9 => sCR u9) (fun u40 H locs h hw => ?_)
            obtain ⟨S42, rfl⟩ : ∃ z, z = u40 := ⟨_, rfl⟩
            obtain ⟨C41, eC41⟩ : ∃ z, z = va_up C38 5 S42 := ⟨_, rfl⟩
            replace h := h C41 eC41
            replace hw : Wd g.1 A s.heap ((wC g q) (C41, N)) H locs := by rw [eC41]; exact hw
            refine lv_aload_n hx hb dX5_lacks_108 rfl (lv_at hl 0 rfl) ?_
            refine O5_g9 hC hinX5 hK (hw.sub sC1O) (List.mem_of_getElem? (i := 2) rfl) dX5_lacks_109 ?_
            refine R5_rg4 hC hinX2 hK (hw.sub sC1R) hE.nFX5_207 dX5_lacks_112 ?_
            refine lv_iload hx hb dX5_lacks_115 (lv_at hl 3 rfl) ?_
            refine lv_aload_n hx hb dX5_lacks_117 rfl (lv_at hl 0 rfl) ?_
            refine O5_g0 hC hinX5 hK (hw.sub sC1O) (List.mem_of_getElem? (i := 1) rfl) dX5_lacks_118 ?_
            refine P5_pg3 hC hinX1 hK (hw.sub (sC1P isP1)) hE.nFX5_97 dX5_lacks_121 ?_
            refine lv_iload hx hb dX5_lacks_124 (lv_at hl 3 rfl) ?_
            obtain ⟨hi, h⟩ := h
            refine P5_pl3 hC hK (hw.sub (sC1P isP1)) hi dX5_lacks_126 ?_
            obtain ⟨hi, h⟩ := h
            refine C_s5_4 hC hK hw hi dX5_lacks_127 (fun C43 H locs eC43 hw => ?_)
            replace h := h C43 eC43
            refine lv_aload_n hx hb dX5_lacks_128 rfl (lv_at hl 0 rfl) ?_
            refine O5_g9 hC hinX5 hK (hw.sub sC1O) (List.mem_of_getElem? (i := 2) rfl) dX5_lacks_129 ?_
            refine R5_rg5 hC hinX2 hK (hw.sub sC1R) hE.nFX5_186 dX5_lacks_132 ?_
            refine lv_if_le (tgt := 170) hx hb dX5_lacks_135 (by decide) (fun c57 => ?_) (fun c57 => ?_)
            · replace h := h.1 c57
              obtain ⟨x44, ex44⟩ : ∃ y : Int32, y = x24 + (1 : Int32) := ⟨_, rfl⟩
              refine lv_iinc (v := x44) (lv' := [(5, .int x44), (0, .ref (q 0 0)), (2, .int x22), (3, .int x23), (4, .int x9)]) hx hb dX5_lacks_170 hl (k := 4) rfl (by rw [ex44]; rfl) (by decide) rfl (fun ls hl => ?_)
              replace h := h x44 ex44
              refine lv_goto (tgt := 44) hx hb dX5_lacks_173 (by decide) ?_
              exact h _ _ _ hw (lv_sub hl [1, 2, 3, 4, 0] rfl)
            · replace h := h.2 c57
              refine lv_iload_n hx hb dX5_lacks_138 rfl (lv_at hl 2 rfl) ?_
              obtain ⟨J46, hJ47, h⟩ := h
              have join48 : ∀  (H : Heap) (locs : List Loc) (ls : Array Slot), J46 () → Wd g.1 A s.heap ((wC g q) (C43, N)) H locs → lv_has ls 6 [(0, .ref (q 0 0)), (4, .int x9), (5, .int x24)] → W p l e (rmm 24 720) s m args below meth c H locs 0 0 Q (F0 m 153 ls []) := by
                intro  H locs ls h hw hl
                replace h := hJ47 () h
                refine lv_aload_n hx hb dX5_lacks_153 rfl (lv_at hl 0 rfl) ?_
                refine O5_g9 hC hinX5 hK (hw.sub sC1O) (List.mem_of_getElem? (i := 2) rfl) dX5_lacks_154 ?_
                refine R5_rg7 hC hinX2 hK (hw.sub sC1R) hE.nFX5_189 dX5_lacks_157 ?_
                refine lv_topi (fun x49 ex49 => ?_)
                replace h := h x49 ex49
                refine lv_istore_n (lv' := [(2, .int x49), (0, .ref (q 0 0)), (4, .int x9), (5, .int x24)]) hx hb dX5_lacks_160 rfl hl (by decide) rfl (fun ls hl => ?_)
                refine lv_bipush (v := (10 : Int32)) hx hb dX5_lacks_161 (by decide) ?_
                refine lv_iload hx hb dX5_lacks_163 (lv_at hl 2 rfl) ?_
                refine lv_imul hx hb dX5_lacks_165 ?_
                refine lv_iload hx hb dX5_lacks_166 (lv_at hl 3 rfl) ?_
                refine lv_iadd hx hb dX5_lacks_168 ?_
                refine lv_topi (fun x50 ex50 => ?_)
                replace h := h x50 ex50
                refine lv_istore_n (lv' := [(3, .int x50), (2, .int x49), (0, .ref (q 0 0)), (4, .int x9), (5, .int x24)]) hx hb dX5_lacks_169 rfl hl (by decide) rfl (fun ls hl => ?_)
                obtain ⟨x51, ex51⟩ : ∃ y : Int32, y = x24 + (1 : Int32) := ⟨_, rfl⟩
                refine lv_iinc (v := x51) (lv' := [(5, .int x51), (3, .int x50), (2, .int x49), (0, .ref (q 0 0)), (4, .int x9)]) hx hb dX5_lacks_170 hl (k := 4) rfl (by rw [ex51]; rfl) (by decide) rfl (fun ls hl => ?_)
                replace h := h x51 ex51
                refine lv_goto (tgt := 44) hx hb dX5_lacks_173 (by decide) ?_
                exact h _ _ _ hw (lv_sub hl [3, 2, 1, 4, 0] rfl)
              refine lv_if_lt (tgt := 153) hx hb dX5_lacks_139 (by decide) (fun c56 => ?_) (fun c56 => ?_)
              · replace h := h.1 c56
                exact join48  _ _ _ h hw (lv_sub hl [0, 3, 4] rfl)
              · replace h := h.2 c56
                refine lv_aload_n hx hb dX5_lacks_142 rfl (lv_at hl 0 rfl) ?_
                refine O5_g9 hC hinX5 hK (hw.sub sC1O) (List.mem_of_getElem? (i := 2) rfl) dX5_lacks_143 ?_
                refine R5_rg7 hC hinX2 hK (hw.sub sC1R) hE.nFX5_189 dX5_lacks_146 ?_
                refine lv_iload_n hx hb dX5_lacks_149 rfl (lv_at hl 1 rfl) ?_
                refine lv_icmp_ge (tgt := 170) hx hb dX5_lacks_150 (by decide) (fun c55 => ?_) (fun c55 => ?_)
                · replace h := h.1 c55
                  obtain ⟨x53, ex53⟩ : ∃ y : Int32, y = x24 + (1 : Int32) := ⟨_, rfl⟩
                  refine lv_iinc (v := x53) (lv' := [(5, .int x53), (0, .ref (q 0 0)), (2, .int x22), (3, .int x23), (4, .int x9)]) hx hb dX5_lacks_170 hl (k := 4) rfl (by rw [ex53]; rfl) (by decide) rfl (fun ls hl => ?_)
                  replace h := h x53 ex53
                  refine lv_goto (tgt := 44) hx hb dX5_lacks_173 (by decide) ?_
                  exact h _ _ _ hw (lv_sub hl [1, 2, 3, 4, 0] rfl)
                · replace h := h.2 c55
                  exact join48  _ _ _ h hw (lv_sub hl [0, 3, 4] rfl)
          · replace h := h.2 c60
            refine lv_goto (tgt := 170) hx hb dX5_lacks_81 (by decide) ?_
            obtain ⟨x58, ex58⟩ : ∃ y : Int32, y = x24 + (1 : Int32) := ⟨_, rfl⟩
            refine lv_iinc (v := x58) (lv' := [(5, .int x58), (0, .ref (q 0 0)), (2, .int x22), (3, .int x23), (4, .int x9)]) hx hb dX5_lacks_170 hl (k := 4) rfl (by rw [ex58]; rfl) (by decide) rfl (fun ls hl => ?_)
            replace h := h x58 ex58
            refine lv_goto (tgt := 44) hx hb dX5_lacks_173 (by decide) ?_
            exact h _ _ _ hw (lv_sub hl [1, 2, 3, 4, 0] rfl)
  · replace h := h.1 c68
    refine lv_aload_n hx hb dX5_lacks_11 rfl (lv_at hl 0 rfl) ?_
    refine lv_iconst (v := (0 : Int32)) hx hb dX5_lacks_12 (by decide) ?_
    refine mcalli (w1 := (wC g q)) (va_runV (As := [.int (0 : Int32)]) (rest := []) hC (kX5_finding l g aK aV q H.size C N (0 : Int32) _ h) (cwV 1 hts gX5_lacks_X5_finding rfl rfl rfl (by decide +kernel) ⟨Nat.le_of_ble_eq_true rfl, Nat.le_of_ble_eq_true rfl⟩) (mpreV (E5_ok aK aV) hK hE hA hw (Sub1.refl _) 0 rfl rfl) rfl rfl hl.1 rfl (lv_room (Nat.le_of_ble_eq_true rfl)) dX5_lacks_13 ⟨Nat.zero_le _, Nat.zero_le _⟩) hA hw (Sub1.refl _) (fun u9 => Sub.whole (wC_map u9.1 u9.2)) (fun r64 u65 H locs h hw => ?_)
    obtain ⟨C66, N67⟩ := u65
    obtain ⟨hu, h⟩ := h
    replace hu : N = N67 := hu.symm
    subst hu
    rw [hQ]
    exact mreti (w := (wC g q)) (u := (C66, N)) hC hr hlocks hK hw ⟨rfl, h⟩ dX5_lacks_16
def wX5_feed (C : Nat → Bun) (N : Nat → Lon) (a1 : Int32) (a2 : Int32) (post : Int32 → (Nat → Bun) → Prop) : Prop :=
  wjoin (σ := Unit) (fun _ => wX5_finding C N (0 : Int32) (fun r4 C6 => post r4 C6)) (fun J1 => ((a2 < (1 : Int32) → J1 ()) ∧ (¬ (a2 < (1 : Int32)) → ((a2 ≤ (4 : Int32) → ((((C 4 0 1) + a2) ≤ (120 : Int32) → ∀ x8 : Int32, x8 = a2 - (1 : Int32) → wloop (σ := Int32 × (Nat → Bun)) (fun K11 z => match z with | (x9, C10) => ((x9 < 0 → post (C10 4 0 1) C10) ∧ (¬ (x9 < 0) → wX4_append (C10 4) (((a1.toUInt32 >>> (((8 : Int32) * x9).toUInt32 &&& Int32.toUInt32 31)).toInt32) &&& (255 : Int32)) (fun S20 => ∀ C19 : Nat → Bun, C19 = va_up C10 4 S20 → ∀ x21 : Int32, x21 = x9 + (-1 : Int32) → K11 (x21, C19))))) (x8, C)) ∧ (¬ (((C 4 0 1) + a2) ≤ (120 : Int32)) → wX5_finding C N (1 : Int32) (fun r24 C26 => post r24 C26)))) ∧ (¬ (a2 ≤ (4 : Int32)) → J1 ())))))
set_option maxRecDepth 100000 in
set_option maxHeartbeats 4000000 in
theorem kX5_feed (l : Launch) (g : Gl) (aK : Nat → Nat) (aV : Nat → Nat) (q : Nat → Nat → Nat) (sz : Nat) (C : Nat → Bun) (N : Nat → Lon) (a1 : Int32) (a2 : Int32) (post : Int32 → (Nat → Bun) → Prop) (h : wX5_feed C N a1 a2 post) : Met l yX5_feed wsX5_feed (rmm 1 21) (wPc g (E5 aK aV) ((wC g q) (C, N)) sz [.ref (q 0 0), .int a1, .int a2]) (va_Qi (fun (r : Int32) (u : (Nat → Bun) × (Nat → Lon)) => u.2 = N ∧ post r u.1) (wB g (wC g q) (va_A ((wC g q) (C, N)) sz)) (va_A ((wC g q) (C, N)) sz)) 0 0 (va_A ((wC g q) (C, N)) sz) := by
  refine mstart (Qf := fun A => va_Qi (fun (r : Int32) (u : (Nat → Bun) × (Nat → Lon)) => u.2 = N ∧ post r u.1) (wB g (wC g q) A) A) (by decide) rfl (Nat.le_of_ble_eq_true rfl) ?_
  intro p e s m args below meth c A Q H locs ls hC hr hlocks hname hQ hA hK hE hw hl
  have hC : CallFix p m c cX5_feed 4 s args wsX5_feed RX5 := hC
  obtain ⟨hx, hb, -, hown, hts⟩ := id hC
  have hl : lv_has ls 4 [(0, .ref (q 0 0)), (1, .int a1), (2, .int a2)] := hl
  rw [wX5_feed] at h
  have hinX4 : ∀ w ∈ wsX40, w ∈ wsX5_feed := fun w hw9 => List.mem_cons_of_mem _ (List.mem_append_right _ hw9)
  have hinX5 : ∀ w ∈ wsX50, w ∈ wsX5_feed := fun w hw9 => List.mem_cons_of_mem _ (List.mem_append_left _ (List.mem_append_right _ hw9))
  refine lv_iload_n hx hb dX5_feed_0 rfl (lv_at hl 2 rfl) ?_
  refine lv_iconst (v := (1 : Int32)) hx hb dX5_feed_1 (by decide) ?_
  obtain ⟨J1, hJ2, h⟩ := h
  have join3 : ∀  (H : Heap) (locs : List Loc) (ls : Array Slot), J1 () → Wd g.1 A s.heap ((wC g q) (C, N)) H locs → lv_has ls 4 [(0, .ref (q 0 0))] → W p l e (rmm 1 21) s m args below meth c H locs 0 0 Q (F0 m 10 ls []) := by
    intro  H locs ls h hw hl
    replace h := hJ2 () h
    refine lv_aload_n hx hb dX5_feed_10 rfl (lv_at hl 0 rfl) ?_
    refine lv_iconst (v := (0 : Int32)) hx hb dX5_feed_11 (by decide) ?_
    refine mcalli (w1 := (wC g q)) (va_runV (As := [.int (0 : Int32)]) (rest := []) hC (kX5_finding l g aK aV q H.size C N (0 : Int32) _ h) (cwV 1 hts gX5_feed_X5_finding rfl rfl rfl (by decide +kernel) ⟨Nat.le_of_ble_eq_true rfl, Nat.le_of_ble_eq_true rfl⟩) (mpreV (E5_ok aK aV) hK hE hA hw (Sub1.refl _) 0 rfl rfl) rfl rfl hl.1 rfl (lv_room (Nat.le_of_ble_eq_true rfl)) dX5_feed_12 ⟨Nat.zero_le _, Nat.zero_le _⟩) hA hw (Sub1.refl _) (fun u9 => Sub.whole (wC_map u9.1 u9.2)) (fun r4 u5 H locs h hw => ?_)
    obtain ⟨C6, N7⟩ := u5
    obtain ⟨hu, h⟩ := h
    replace hu : N = N7 := hu.symm
    subst hu
    rw [hQ]
    exact mreti (w := (wC g q)) (u := (C6, N)) hC hr hlocks hK hw ⟨rfl, h⟩ dX5_feed_15
  refine lv_icmp_lt (tgt := 10) hx hb dX5_feed_2 (by decide) (fun c30 => ?_) (fun c30 => ?_)
  · replace h := h.1 c30
    exact join3  _ _ _ h hw (lv_sub hl [0] rfl)
  · replace h := h.2 c30
    refine lv_iload_n hx hb dX5_feed_5 rfl (lv_at hl 2 rfl) ?_
    refine lv_iconst (v := (4 : Int32)) hx hb dX5_feed_6 (by decide) ?_
    refine lv_icmp_le (tgt := 16) hx hb dX5_feed_7 (by decide) (fun c29 => ?_) (fun c29 => ?_)
    · replace h := h.1 c29
      refine lv_aload_n hx hb dX5_feed_16 rfl (lv_at hl 0 rfl) ?_
      refine O5_g4 hC hinX5 hK (hw.sub sC1O) (List.mem_of_getElem? (i := 1) rfl) dX5_feed_17 ?_
      refine T5_tg1 hC hinX4 hK (hw.sub sC1T) hE.nFX5_211 dX5_feed_20 ?_
      refine lv_iload_n hx hb dX5_feed_23 rfl (lv_at hl 2 rfl) ?_
      refine lv_iadd hx hb dX5_feed_24 ?_
      refine lv_bipush (v := (120 : Int32)) hx hb dX5_feed_25 (by decide) ?_
      refine lv_icmp_le (tgt := 36) hx hb dX5_feed_27 (by decide) (fun c28 => ?_) (fun c28 => ?_)
      · replace h := h.1 c28
        refine lv_iload_n hx hb dX5_feed_36 rfl (lv_at hl 2 rfl) ?_
        refine lv_iconst (v := (1 : Int32)) hx hb dX5_feed_37 (by decide) ?_
        refine lv_isub hx hb dX5_feed_38 ?_
        refine lv_topi (fun x8 ex8 => ?_)
        replace h := h x8 ex8
        refine lv_istore_n (lv' := [(3, .int x8), (0, .ref (q 0 0)), (1, .int a1), (2, .int a2)]) hx hb dX5_feed_39 rfl hl (by decide) rfl (fun ls hl => ?_)
        refine h (fun z => match z with | (x9, C10) => ∀ (H : Heap) (locs : List Loc) (ls : Array Slot), Wd g.1 A s.heap ((wC g q) (C10, N)) H locs → lv_has ls 4 [(0, .ref (q 0 0)), (1, .int a1), (3, .int x9)] → W p l e (rmm 1 21) s m args below meth c H locs 0 0 Q (F0 m 40 ls [])) ?_ _ _ _ hw (lv_sub hl [1, 2, 0] rfl)
        clear h hw hl
        rintro ⟨x9, C10⟩ h H locs ls hw hl
        refine lv_iload_n hx hb dX5_feed_40 rfl (lv_at hl 2 rfl) ?_
        refine lv_if_lt (tgt := 67) hx hb dX5_feed_41 (by decide) (fun c23 => ?_) (fun c23 => ?_)
        · replace h := h.1 c23
          refine lv_aload_n hx hb dX5_feed_67 rfl (lv_at hl 0 rfl) ?_
          refine O5_g4 hC hinX5 hK (hw.sub sC1O) (List.mem_of_getElem? (i := 1) rfl) dX5_feed_68 ?_
          refine T5_tg1 hC hinX4 hK (hw.sub sC1T) hE.nFX5_211 dX5_feed_71 ?_
          rw [hQ]
          exact mreti (w := (wC g q)) (u := (C10, N)) hC hr hlocks hK hw ⟨rfl, h⟩ dX5_feed_74
        · replace h := h.2 c23
          refine lv_aload_n hx hb dX5_feed_44 rfl (lv_at hl 0 rfl) ?_
          refine O5_g4 hC hinX5 hK (hw.sub sC1O) (List.mem_of_getElem? (i := 1) rfl) dX5_feed_45 ?_
          refine lv_iload_n hx hb dX5_feed_48 rfl (lv_at hl 1 rfl) ?_
          refine lv_bipush (v := (8 : Int32)) hx hb dX5_feed_49 (by decide) ?_
          refine lv_iload_n hx hb dX5_feed_51 rfl (lv_at hl 2 rfl) ?_
          refine lv_imul hx hb dX5_feed_52 ?_
          refine lv_iushr (v := (a1.toUInt32 >>> (((8 : Int32) * x9).toUInt32 &&& Int32.toUInt32 31)).toInt32) hx hb dX5_feed_53 rfl ?_
          refine lv_sipush (v := (255 : Int32)) hx hb dX5_feed_54 (by decide) ?_
          refine lv_iand hx hb dX5_feed_57 ?_
          refine mcallv (w1 := (fun u9 : Bun => wC g q (va_up C10 4 u9, N))) (va_runVN (C := RX4) (As := [.int (((a1.toUInt32 >>> (((8 : Int32) * x9).toUInt32 &&& Int32.toUInt32 31)).toInt32) &&& (255 : Int32))]) (rest := []) hC (kX4_append l g aK aV (q 4) H.size (C10 4) (((a1.toUInt32 >>> (((8 : Int32) * x9).toUInt32 &&& Int32.toUInt32 31)).toInt32) &&& (255 : Int32)) _ h) ⟨va_cnB 1 hts gX5_feed_X4_append_n214 rfl rfl rfl hE.nMX5_214 (hts (.initialized RX4) (List.mem_of_getElem? (i := 10) rfl)) (by decide +kernel) ⟨Nat.le_of_ble_eq_true rfl, Nat.le_of_ble_eq_true rfl⟩, (hts (.instanceMethod yX4_append) (List.mem_of_getElem? (i := 9) rfl)), (hts (.selects RX4 yX4_append yX4_append) (List.mem_of_getElem? (i := 11) rfl))⟩ (mpreV (E5_ok aK aV) hK hE hA hw sC1T 0 rfl rfl) rfl rfl hl.1 rfl (lv_room (Nat.le_of_ble_eq_true rfl)) dX5_feed_58 ⟨Nat.zero_le _, Nat.zero_le _⟩) hA hw sC1T (fun u9 => sCT u9) (fun u18 H locs h hw => ?_)
          obtain ⟨S20, rfl⟩ : ∃ z, z = u18 := ⟨_, rfl⟩
          obtain ⟨C19, eC19⟩ : ∃ z, z = va_up C10 4 S20 := ⟨_, rfl⟩
          replace h := h C19 eC19
          replace hw : Wd g.1 A s.heap ((wC g q) (C19, N)) H locs := by rw [eC19]; exact hw
          obtain ⟨x21, ex21⟩ : ∃ y : Int32, y = x9 + (-1 : Int32) := ⟨_, rfl⟩
          refine lv_iinc (v := x21) (lv' := [(3, .int x21), (0, .ref (q 0 0)), (1, .int a1)]) hx hb dX5_feed_61 hl (k := 2) rfl (by rw [ex21]; rfl) (by decide) rfl (fun ls hl => ?_)
          replace h := h x21 ex21
          refine lv_goto (tgt := 40) hx hb dX5_feed_64 (by decide) ?_
          exact h _ _ _ hw (lv_sub hl [1, 2, 0] rfl)
      · replace h := h.2 c28
        refine lv_aload_n hx hb dX5_feed_30 rfl (lv_at hl 0 rfl) ?_
        refine lv_iconst (v := (1 : Int32)) hx hb dX5_feed_31 (by decide) ?_
        refine mcalli (w1 := (wC g q)) (va_runV (As := [.int (1 : Int32)]) (rest := []) hC (kX5_finding l g aK aV q H.size C N (1 : Int32) _ h) (cwV 1 hts gX5_feed_X5_finding rfl rfl rfl (by decide +kernel) ⟨Nat.le_of_ble_eq_true rfl, Nat.le_of_ble_eq_true rfl⟩) (mpreV (E5_ok aK aV) hK hE hA hw (Sub1.refl _) 0 rfl rfl) rfl rfl hl.1 rfl (lv_room (Nat.le_of_ble_eq_true rfl)) dX5_feed_32 ⟨Nat.zero_le _, Nat.zero_le _⟩) hA hw (Sub1.refl _) (fun u9 => Sub.whole (wC_map u9.1 u9.2)) (fun r24 u25 H locs h hw => ?_)
        obtain ⟨C26, N27⟩ := u25
        obtain ⟨hu, h⟩ := h
        replace hu : N = N27 := hu.symm
        subst hu
        rw [hQ]
        exact mreti (w := (wC g q)) (u := (C26, N)) hC hr hlocks hK hw ⟨rfl, h⟩ dX5_feed_35
    · replace h := h.2 c29
      exact join3  _ _ _ h hw (lv_sub hl [0] rfl)
def wX5_wipe (C : Nat → Bun) (N : Nat → Lon)  (post : Int32 → (Nat → Bun) → Prop) : Prop :=
  ∀ x1 : Int32, x1 = C 4 0 1 → ∀ C2 : Nat → Bun, C2 = va_up C 4 (up (C 4) 0 1 (0 : Int32)) → post x1 C2
set_option maxRecDepth 100000 in
set_option maxHeartbeats 4000000 in
theorem kX5_wipe (l : Launch) (g : Gl) (aK : Nat → Nat) (aV : Nat → Nat) (q : Nat → Nat → Nat) (sz : Nat) (C : Nat → Bun) (N : Nat → Lon)  (post : Int32 → (Nat → Bun) → Prop) (h : wX5_wipe C N  post) : Met l yX5_wipe wsX5_wipe (rmm 0 0) (wPc g (E5 aK aV) ((wC g q) (C, N)) sz [.ref (q 0 0)]) (va_Qi (fun (r : Int32) (u : (Nat → Bun) × (Nat → Lon)) => u.2 = N ∧ post r u.1) (wB g (wC g q) (va_A ((wC g q) (C, N)) sz)) (va_A ((wC g q) (C, N)) sz)) 0 0 (va_A ((wC g q) (C, N)) sz) := by
  refine mstart (Qf := fun A => va_Qi (fun (r : Int32) (u : (Nat → Bun) × (Nat → Lon)) => u.2 = N ∧ post r u.1) (wB g (wC g q) A) A) (by decide) rfl (Nat.le_of_ble_eq_true rfl) ?_
  intro p e s m args below meth c A Q H locs ls hC hr hlocks hname hQ hA hK hE hw hl
  have hC : CallFix p m c cX5_wipe 2 s args wsX5_wipe RX5 := hC
  obtain ⟨hx, hb, -, hown, hts⟩ := id hC
  have hl : lv_has ls 2 [(0, .ref (q 0 0))] := hl
  rw [wX5_wipe] at h
  have hinX4 : ∀ w ∈ wsX40, w ∈ wsX5_wipe := fun w hw9 => List.mem_cons_of_mem _ (List.mem_append_right _ hw9)
  have hinX5 : ∀ w ∈ wsX50, w ∈ wsX5_wipe := fun w hw9 => List.mem_cons_of_mem _ (List.mem_append_left _ (List.mem_append_right _ hw9))
  refine lv_aload_n hx hb dX5_wipe_0 rfl (lv_at hl 0 rfl) ?_
  refine O5_g4 hC hinX5 hK (hw.sub sC1O) (List.mem_of_getElem? (i := 1) rfl) dX5_wipe_1 ?_
  refine T5_tg1 hC hinX4 hK (hw.sub sC1T) hE.nFX5_211 dX5_wipe_4 ?_
  refine lv_topi (fun x1 ex1 => ?_)
  replace h := h x1 ex1
  refine lv_istore_n (lv' := [(1, .int x1), (0, .ref (q 0 0))]) hx hb dX5_wipe_7 rfl hl (by decide) rfl (fun ls hl => ?_)
  refine lv_aload_n hx hb dX5_wipe_8 rfl (lv_at hl 1 rfl) ?_
  refine O5_g4 hC hinX5 hK (hw.sub sC1O) (List.mem_of_getElem? (i := 1) rfl) dX5_wipe_9 ?_
  refine lv_iconst (v := (0 : Int32)) hx hb dX5_wipe_12 (by decide) ?_
  refine C_p4_1 hC hinX4 hK hw hE.nFX5_211 dX5_wipe_13 (fun C2 H locs eC2 hw => ?_)
  replace h := h C2 eC2
  refine lv_iload_n hx hb dX5_wipe_16 rfl (lv_at hl 0 rfl) ?_
  rw [hQ]
  exact mreti (w := (wC g q)) (u := (C2, N)) hC hr hlocks hK hw ⟨rfl, h⟩ dX5_wipe_17
def wX5_parish (C : Nat → Bun) (N : Nat → Lon)  (post : Int32 → (Nat → Bun) → Prop) : Prop :=
  wX1_takeFrom (C 3) (C 1)  (fun S4 S5 => ∀ C3 : Nat → Bun, C3 = va_up (va_up C 3 S4) 1 S5 → wX4_tellOnto (C3 4) (C3 3)  (fun r6 S9 S10 => ∀ C8 : Nat → Bun, C8 = va_up (va_up C3 4 S9) 3 S10 → ∀ C11 : Nat → Bun, C11 = va_up C8 4 (up (C8 4) 0 1 (0 : Int32)) → ((r6 < 0 → post r6 C11) ∧ (¬ (r6 < 0) → wX1_takeFrom (C11 1) (C11 3)  (fun S15 S16 => ∀ C14 : Nat → Bun, C14 = va_up (va_up C11 1 S15) 3 S16 → post r6 C14)))))
set_option maxRecDepth 100000 in
set_option maxHeartbeats 4000000 in
theorem kX5_parish (l : Launch) (g : Gl) (aK : Nat → Nat) (aV : Nat → Nat) (q : Nat → Nat → Nat) (sz : Nat) (C : Nat → Bun) (N : Nat → Lon)  (post : Int32 → (Nat → Bun) → Prop) (h : wX5_parish C N  post) : Met l yX5_parish wsX5_parish (rmm 9 200) (wPc g (E5 aK aV) ((wC g q) (C, N)) sz [.ref (q 0 0)]) (va_Qi (fun (r : Int32) (u : (Nat → Bun) × (Nat → Lon)) => u.2 = N ∧ post r u.1) (wB g (wC g q) (va_A ((wC g q) (C, N)) sz)) (va_A ((wC g q) (C, N)) sz)) 0 0 (va_A ((wC g q) (C, N)) sz) := by
  refine mstart (Qf := fun A => va_Qi (fun (r : Int32) (u : (Nat → Bun) × (Nat → Lon)) => u.2 = N ∧ post r u.1) (wB g (wC g q) A) A) (by decide) rfl (Nat.le_of_ble_eq_true rfl) ?_
  intro p e s m args below meth c A Q H locs ls hC hr hlocks hname hQ hA hK hE hw hl
  have hC : CallFix p m c cX5_parish 2 s args wsX5_parish RX5 := hC
  obtain ⟨hx, hb, -, hown, hts⟩ := id hC
  have hl : lv_has ls 2 [(0, .ref (q 0 0))] := hl
  rw [wX5_parish] at h
  have hinX4 : ∀ w ∈ wsX40, w ∈ wsX5_parish := fun w hw9 => List.mem_cons_of_mem _ (List.mem_append_left _ (List.mem_append_right _ hw9))
  have hinX5 : ∀ w ∈ wsX50, w ∈ wsX5_parish := fun w hw9 => List.mem_cons_of_mem _ (List.mem_append_left _ (List.mem_append_left _ (List.mem_append_right _ hw9)))
  refine lv_aload_n hx hb dX5_parish_0 rfl (lv_at hl 0 rfl) ?_
  refine O5_g2 hC hinX5 hK (hw.sub sC1O) (List.mem_of_getElem? (i := 1) rfl) dX5_parish_1 ?_
  refine lv_aload_n hx hb dX5_parish_4 rfl (lv_at hl 0 rfl) ?_
  refine O5_g0 hC hinX5 hK (hw.sub sC1O) (List.mem_of_getElem? (i := 2) rfl) dX5_parish_5 ?_
  refine mcallv (w1 := (fun u9 : Bun × Bun => wC g q (va_up (va_up C 3 u9.1) 1 u9.2, N))) (va_runVN (C := RX1) (As := [.ref (q 1 0)]) (rest := []) hC (kX1_takeFrom l g aK aV (q 3) (q 1) H.size (C 3) (C 1)  _ h) ⟨va_cnB 1 hts gX5_parish_X1_takeFrom_n217 rfl rfl rfl hE.nMX5_217 (hts (.initialized RX1) (List.mem_of_getElem? (i := 5) rfl)) (by decide +kernel) ⟨Nat.le_of_ble_eq_true rfl, Nat.le_of_ble_eq_true rfl⟩, (hts (.instanceMethod yX1_takeFrom) (List.mem_of_getElem? (i := 4) rfl)), (hts (.selects RX1 yX1_takeFrom yX1_takeFrom) (List.mem_of_getElem? (i := 6) rfl))⟩ (mpreV (E5_ok aK aV) hK hE hA hw (sC1PP isP3 isP1 (by decide)) 0 rfl rfl) rfl rfl hl.1 rfl (lv_room (Nat.le_of_ble_eq_true rfl)) dX5_parish_8 ⟨Nat.zero_le _, Nat.zero_le _⟩) hA hw (sC1PP isP3 isP1 (by decide)) (fun u9 => sCPP isP3 isP1 (by decide) u9) (fun u2 H locs h hw => ?_)
  obtain ⟨S4, S5⟩ := u2
  obtain ⟨C3, eC3⟩ : ∃ z, z = va_up (va_up C 3 S4) 1 S5 := ⟨_, rfl⟩
  replace h := h C3 eC3
  replace hw : Wd g.1 A s.heap ((wC g q) (C3, N)) H locs := by rw [eC3]; exact hw
  refine lv_aload_n hx hb dX5_parish_11 rfl (lv_at hl 0 rfl) ?_
  refine O5_g4 hC hinX5 hK (hw.sub sC1O) (List.mem_of_getElem? (i := 3) rfl) dX5_parish_12 ?_
  refine lv_aload_n hx hb dX5_parish_15 rfl (lv_at hl 0 rfl) ?_
  refine O5_g2 hC hinX5 hK (hw.sub sC1O) (List.mem_of_getElem? (i := 1) rfl) dX5_parish_16 ?_
  refine mcalli (w1 := (fun u9 : Bun × Bun => wC g q (va_up (va_up C3 4 u9.1) 3 u9.2, N))) (va_runVN (C := RX4) (As := [.ref (q 3 0)]) (rest := []) hC (kX4_tellOnto l g aK aV (q 4) (q 3) H.size (C3 4) (C3 3)  _ h) ⟨va_cnB 1 hts gX5_parish_X4_tellOnto_n221 rfl rfl rfl hE.nMX5_221 (hts (.initialized RX4) (List.mem_of_getElem? (i := 19) rfl)) (by decide +kernel) ⟨Nat.le_of_ble_eq_true rfl, Nat.le_of_ble_eq_true rfl⟩, (hts (.instanceMethod yX4_tellOnto) (List.mem_of_getElem? (i := 18) rfl)), (hts (.selects RX4 yX4_tellOnto yX4_tellOnto) (List.mem_of_getElem? (i := 20) rfl))⟩ (mpreV (E5_ok aK aV) hK hE hA hw sC1TP 0 rfl rfl) rfl rfl hl.1 rfl (lv_room (Nat.le_of_ble_eq_true rfl)) dX5_parish_19 ⟨Nat.zero_le _, Nat.zero_le _⟩) hA hw sC1TP (fun u9 => sCTP u9) (fun r6 u7 H locs h hw => ?_)
  obtain ⟨S9, S10⟩ := u7
  obtain ⟨C8, eC8⟩ : ∃ z, z = va_up (va_up C3 4 S9) 3 S10 := ⟨_, rfl⟩
  replace h := h C8 eC8
  replace hw : Wd g.1 A s.heap ((wC g q) (C8, N)) H locs := by rw [eC8]; exact hw
  refine lv_istore_n (lv' := [(1, .int r6), (0, .ref (q 0 0))]) hx hb dX5_parish_22 rfl hl (by decide) rfl (fun ls hl => ?_)
  refine lv_aload_n hx hb dX5_parish_23 rfl (lv_at hl 1 rfl) ?_
  refine O5_g4 hC hinX5 hK (hw.sub sC1O) (List.mem_of_getElem? (i := 3) rfl) dX5_parish_24 ?_
  refine lv_iconst (v := (0 : Int32)) hx hb dX5_parish_27 (by decide) ?_
  refine C_p4_1 hC hinX4 hK hw hE.nFX5_211 dX5_parish_28 (fun C11 H locs eC11 hw => ?_)
  replace h := h C11 eC11
  refine lv_iload_n hx hb dX5_parish_31 rfl (lv_at hl 0 rfl) ?_
  refine lv_if_lt (tgt := 46) hx hb dX5_parish_32 (by decide) (fun c17 => ?_) (fun c17 => ?_)
  · replace h := h.1 c17
    refine lv_iload_n hx hb dX5_parish_46 rfl (lv_at hl 0 rfl) ?_
    rw [hQ]
    exact mreti (w := (wC g q)) (u := (C11, N)) hC hr hlocks hK hw ⟨rfl, h⟩ dX5_parish_47
  · replace h := h.2 c17
    refine lv_aload_n hx hb dX5_parish_35 rfl (lv_at hl 1 rfl) ?_
    refine O5_g0 hC hinX5 hK (hw.sub sC1O) (List.mem_of_getElem? (i := 2) rfl) dX5_parish_36 ?_
    refine lv_aload_n hx hb dX5_parish_39 rfl (lv_at hl 1 rfl) ?_
    refine O5_g2 hC hinX5 hK (hw.sub sC1O) (List.mem_of_getElem? (i := 1) rfl) dX5_parish_40 ?_
    refine mcallv (w1 := (fun u9 : Bun × Bun => wC g q (va_up (va_up C11 1 u9.1) 3 u9.2, N))) (va_runVN (C := RX1) (As := [.ref (q 3 0)]) (rest := []) hC (kX1_takeFrom l g aK aV (q 1) (q 3) H.size (C11 1) (C11 3)  _ h) ⟨va_cnB 1 hts gX5_parish_X1_takeFrom_n217 rfl rfl rfl hE.nMX5_217 (hts (.initialized RX1) (List.mem_of_getElem? (i := 5) rfl)) (by decide +kernel) ⟨Nat.le_of_ble_eq_true rfl, Nat.le_of_ble_eq_true rfl⟩, (hts (.instanceMethod yX1_takeFrom) (List.mem_of_getElem? (i := 4) rfl)), (hts (.selects RX1 yX1_takeFrom yX1_takeFrom) (List.mem_of_getElem? (i := 6) rfl))⟩ (mpreV (E5_ok aK aV) hK hE hA hw (sC1PP isP1 isP3 (by decide)) 0 rfl rfl) rfl rfl hl.1 rfl (lv_room (Nat.le_of_ble_eq_true rfl)) dX5_parish_43 ⟨Nat.zero_le _, Nat.zero_le _⟩) hA hw (sC1PP isP1 isP3 (by decide)) (fun u9 => sCPP isP1 isP3 (by decide) u9) (fun u13 H locs h hw => ?_)
    obtain ⟨S15, S16⟩ := u13
    obtain ⟨C14, eC14⟩ : ∃ z, z = va_up (va_up C11 1 S15) 3 S16 := ⟨_, rfl⟩
    replace h := h C14 eC14
    replace hw : Wd g.1 A s.heap ((wC g q) (C14, N)) H locs := by rw [eC14]; exact hw
    refine lv_iload_n hx hb dX5_parish_46 rfl (lv_at hl 0 rfl) ?_
    rw [hQ]
    exact mreti (w := (wC g q)) (u := (C14, N)) hC hr hlocks hK hw ⟨rfl, h⟩ dX5_parish_47
def wX5_sheet (C : Nat → Bun) (N : Nat → Lon) (a1 : Int32) (a2 : Int32) (a3 : Int32) (post : Int32 → (Nat → Bun) → (Nat → Lon) → Prop) : Prop :=
  wX5_isSheet a1 (fun r1 => wjoin (σ := Unit) (fun _ => wX5_finding C N (0 : Int32) (fun r6 C8 => post r6 C8 N)) (fun J3 => ((r1 = 0 → J3 ()) ∧ (¬ (r1 = 0) → wjoin (σ := Unit) (fun _ => ((0 ≤ a3 → ((a3 ≤ (40 : Int32) → vp_in a1 4 ∧ wX3_begin (C (a1.toNatClampNeg + 7)) (N (a1.toNatClampNeg + 7)) a2 a3 (fun S17 J18 => ∀ C16 : Nat → Bun, C16 = va_up C (a1.toNatClampNeg + 7) S17 → ∀ N19 : Nat → Lon, N19 = va_up N (a1.toNatClampNeg + 7) J18 → vp_in a1 4 ∧ post (C16 (a1.toNatClampNeg + 7) 0 1) C16 N19)) ∧ (¬ (a3 ≤ (40 : Int32)) → wX5_finding C N (0 : Int32) (fun r21 C23 => post r21 C23 N)))) ∧ (¬ (0 ≤ a3) → wX5_finding C N (6 : Int32) (fun r26 C28 => post r26 C28 N)))) (fun J10 => ((a2 = 0 → J10 ()) ∧ (¬ (a2 = 0) → ((a2 = (8 : Int32) → J10 ()) ∧ (¬ (a2 = (8 : Int32)) → ((a2 = (16 : Int32) → J10 ()) ∧ (¬ (a2 = (16 : Int32)) → ((a2 = (64 : Int32) → J10 ()) ∧ (¬ (a2 = (64 : Int32)) → J3 ())))))))))))))
set_option maxRecDepth 100000 in
set_option maxHeartbeats 4000000 in
theorem kX5_sheet (l : Launch) (g : Gl) (aK : Nat → Nat) (aV : Nat → Nat) (q : Nat → Nat → Nat) (sz : Nat) (C : Nat → Bun) (N : Nat → Lon) (a1 : Int32) (a2 : Int32) (a3 : Int32) (post : Int32 → (Nat → Bun) → (Nat → Lon) → Prop) (h : wX5_sheet C N a1 a2 a3 post) : Met l yX5_sheet wsX5_sheet (rmm 2 46) (wPc g (E5 aK aV) ((wC g q) (C, N)) sz [.ref (q 0 0), .int a1, .int a2, .int a3]) (va_Qi (fun (r : Int32) (u : (Nat → Bun) × (Nat → Lon)) => post r u.1 u.2) (wB g (wC g q) (va_A ((wC g q) (C, N)) sz)) (va_A ((wC g q) (C, N)) sz)) 0 0 (va_A ((wC g q) (C, N)) sz) := by
  refine mstart (Qf := fun A => va_Qi (fun (r : Int32) (u : (Nat → Bun) × (Nat → Lon)) => post r u.1 u.2) (wB g (wC g q) A) A) (by decide) rfl (Nat.le_of_ble_eq_true rfl) ?_
  intro p e s m args below meth c A Q H locs ls hC hr hlocks hname hQ hA hK hE hw hl
  have hC : CallFix p m c cX5_sheet 4 s args wsX5_sheet RX5 := hC
  obtain ⟨hx, hb, -, hown, hts⟩ := id hC
  have hl : lv_has ls 4 [(0, .ref (q 0 0)), (1, .int a1), (2, .int a2), (3, .int a3)] := hl
  rw [wX5_sheet] at h
  have hinX3 : ∀ w ∈ wsX30, w ∈ wsX5_sheet := fun w hw9 => List.mem_cons_of_mem _ (List.mem_append_right _ hw9)
  have hinX5 : ∀ w ∈ wsX50, w ∈ wsX5_sheet := fun w hw9 => List.mem_cons_of_mem _ (List.mem_append_left _ (List.mem_append_right _ hw9))
  refine lv_iload_n hx hb dX5_sheet_0 rfl (lv_at hl 1 rfl) ?_
  refine mcalli (w1 := (fun _ => (wC g q) (C, N))) (wc := fun _ : Unit => ([] : va_W)) (u := ()) (va_runS (As := [.int a1]) (rest := []) hC (kX5_isSheet l g aK aV H.size a1 _ h) (va_cwS 1 hts gX5_sheet_X5_isSheet rfl rfl rfl (by decide +kernel) ⟨Nat.le_of_ble_eq_true rfl, Nat.le_of_ble_eq_true rfl⟩) (mpre (E5_ok aK aV) hK hE hA hw (Sub1.nil _)) rfl rfl hl.1 rfl (lv_room (Nat.le_of_ble_eq_true rfl)) dX5_sheet_1 ⟨Nat.zero_le _, Nat.zero_le _⟩) hA hw (Sub1.nil _) (fun _ => Sub.nil _) (fun r1 u2 H locs h hw => ?_)
  obtain ⟨_, h⟩ := h
  obtain ⟨J3, hJ4, h⟩ := h
  have join5 : ∀  (H : Heap) (locs : List Loc) (ls : Array Slot), J3 () → Wd g.1 A s.heap ((wC g q) (C, N)) H locs → lv_has ls 4 [(0, .ref (q 0 0))] → W p l e (rmm 2 46) s m args below meth c H locs 0 0 Q (F0 m 29 ls []) := by
    intro  H locs ls h hw hl
    replace h := hJ4 () h
    refine lv_aload_n hx hb dX5_sheet_29 rfl (lv_at hl 0 rfl) ?_
    refine lv_iconst (v := (0 : Int32)) hx hb dX5_sheet_30 (by decide) ?_
    refine mcalli (w1 := (wC g q)) (va_runV (As := [.int (0 : Int32)]) (rest := []) hC (kX5_finding l g aK aV q H.size C N (0 : Int32) _ h) (cwV 1 hts gX5_sheet_X5_finding rfl rfl rfl (by decide +kernel) ⟨Nat.le_of_ble_eq_true rfl, Nat.le_of_ble_eq_true rfl⟩) (mpreV (E5_ok aK aV) hK hE hA hw (Sub1.refl _) 0 rfl rfl) rfl rfl hl.1 rfl (lv_room (Nat.le_of_ble_eq_true rfl)) dX5_sheet_31 ⟨Nat.zero_le _, Nat.zero_le _⟩) hA hw (Sub1.refl _) (fun u9 => Sub.whole (wC_map u9.1 u9.2)) (fun r6 u7 H locs h hw => ?_)
    obtain ⟨C8, N9⟩ := u7
    obtain ⟨hu, h⟩ := h
    replace hu : N = N9 := hu.symm
    subst hu
    rw [hQ]
    exact mreti (w := (wC g q)) (u := (C8, N)) hC hr hlocks hK hw h dX5_sheet_34
  refine lv_if_eq (tgt := 29) hx hb dX5_sheet_4 (by decide) (fun c35 => ?_) (fun c35 => ?_)
  · replace h := h.1 c35
    exact join5  _ _ _ h hw (lv_sub hl [0] rfl)
  · replace h := h.2 c35
    refine lv_iload_n hx hb dX5_sheet_7 rfl (lv_at hl 2 rfl) ?_
    obtain ⟨J10, hJ11, h⟩ := h
    have join12 : ∀  (H : Heap) (locs : List Loc) (ls : Array Slot), J10 () → Wd g.1 A s.heap ((wC g q) (C, N)) H locs → lv_has ls 4 [(0, .ref (q 0 0)), (1, .int a1), (2, .int a2), (3, .int a3)] → W p l e (rmm 2 46) s m args below meth c H locs 0 0 Q (F0 m 35 ls []) := by
      intro  H locs ls h hw hl
      replace h := hJ11 () h
      refine lv_iload_n hx hb dX5_sheet_35 rfl (lv_at hl 3 rfl) ?_
      refine lv_if_ge (tgt := 46) hx hb dX5_sheet_36 (by decide) (fun c30 => ?_) (fun c30 => ?_)
      · replace h := h.1 c30
        refine lv_iload_n hx hb dX5_sheet_46 rfl (lv_at hl 3 rfl) ?_
        refine lv_bipush (v := (40 : Int32)) hx hb dX5_sheet_47 (by decide) ?_
        refine lv_icmp_le (tgt := 58) hx hb dX5_sheet_49 (by decide) (fun c25 => ?_) (fun c25 => ?_)
        · replace h := h.1 c25
          refine lv_aload_n hx hb dX5_sheet_58 rfl (lv_at hl 0 rfl) ?_
          refine O5_g5 hC hinX5 hK (hw.sub sC1O) (List.mem_of_getElem? (i := 1) rfl) dX5_sheet_59 ?_
          refine lv_iload_n hx hb dX5_sheet_62 rfl (lv_at hl 1 rfl) ?_
          obtain ⟨hi13, h⟩ := h
          refine O5_sheets hC hK (hw.sub sC1O) hi13 dX5_sheet_63 ?_
          refine lv_iload_n hx hb dX5_sheet_64 rfl (lv_at hl 2 rfl) ?_
          refine lv_iload_n hx hb dX5_sheet_65 rfl (lv_at hl 3 rfl) ?_
          refine mcallv (w1 := (fun u9 : Bun × Lon => wC g q (va_up C (a1.toNatClampNeg + 7) u9.1, va_up N (a1.toNatClampNeg + 7) u9.2))) (va_runVN (C := RX3) (As := [.int a2, .int a3]) (rest := []) hC (kX3_begin l g aK aV (q (a1.toNatClampNeg + 7)) H.size (C (a1.toNatClampNeg + 7)) (N (a1.toNatClampNeg + 7)) a2 a3 _ h) ⟨va_cnB 2 hts gX5_sheet_X3_begin_n228 rfl rfl rfl hE.nMX5_228 (hts (.initialized RX3) (List.mem_of_getElem? (i := 13) rfl)) (by decide +kernel) ⟨Nat.le_of_ble_eq_true rfl, Nat.le_of_ble_eq_true rfl⟩, (hts (.instanceMethod yX3_begin) (List.mem_of_getElem? (i := 12) rfl)), (hts (.selects RX3 yX3_begin yX3_begin) (List.mem_of_getElem? (i := 14) rfl))⟩ (mpreV (E5_ok aK aV) hK hE hA hw (sC1H (isH_of hi13)) 0 rfl rfl) rfl rfl hl.1 rfl (lv_room (Nat.le_of_ble_eq_true rfl)) dX5_sheet_66 ⟨Nat.zero_le _, Nat.zero_le _⟩) hA hw (sC1H (isH_of hi13)) (fun u9 => sCH (isH_of hi13) u9) (fun u15 H locs h hw => ?_)
          obtain ⟨S17, J18⟩ := u15
          obtain ⟨C16, eC16⟩ : ∃ z, z = va_up C (a1.toNatClampNeg + 7) S17 := ⟨_, rfl⟩
          replace h := h C16 eC16
          obtain ⟨N19, eN19⟩ : ∃ z, z = va_up N (a1.toNatClampNeg + 7) J18 := ⟨_, rfl⟩
          replace h := h N19 eN19
          replace hw : Wd g.1 A s.heap ((wC g q) (C16, N19)) H locs := by rw [eC16, eN19]; exact hw
          refine lv_aload_n hx hb dX5_sheet_69 rfl (lv_at hl 0 rfl) ?_
          refine O5_g5 hC hinX5 hK (hw.sub sC1O) (List.mem_of_getElem? (i := 1) rfl) dX5_sheet_70 ?_
          refine lv_iload_n hx hb dX5_sheet_73 rfl (lv_at hl 1 rfl) ?_
          obtain ⟨hi20, h⟩ := h
          refine O5_sheets hC hK (hw.sub sC1O) hi20 dX5_sheet_74 ?_
          refine H5_hg1 hC hinX3 hK (hw.sub (sC1H (isH_of hi20))) hE.nFX5_232 dX5_sheet_75 ?_
          rw [hQ]
          exact mreti (w := (wC g q)) (u := (C16, N19)) hC hr hlocks hK hw h dX5_sheet_78
        · replace h := h.2 c25
          refine lv_aload_n hx hb dX5_sheet_52 rfl (lv_at hl 0 rfl) ?_
          refine lv_iconst (v := (0 : Int32)) hx hb dX5_sheet_53 (by decide) ?_
          refine mcalli (w1 := (wC g q)) (va_runV (As := [.int (0 : Int32)]) (rest := []) hC (kX5_finding l g aK aV q H.size C N (0 : Int32) _ h) (cwV 1 hts gX5_sheet_X5_finding rfl rfl rfl (by decide +kernel) ⟨Nat.le_of_ble_eq_true rfl, Nat.le_of_ble_eq_true rfl⟩) (mpreV (E5_ok aK aV) hK hE hA hw (Sub1.refl _) 0 rfl rfl) rfl rfl hl.1 rfl (lv_room (Nat.le_of_ble_eq_true rfl)) dX5_sheet_54 ⟨Nat.zero_le _, Nat.zero_le _⟩) hA hw (Sub1.refl _) (fun u9 => Sub.whole (wC_map u9.1 u9.2)) (fun r21 u22 H locs h hw => ?_)
          obtain ⟨C23, N24⟩ := u22
          obtain ⟨hu, h⟩ := h
          replace hu : N = N24 := hu.symm
          subst hu
          rw [hQ]
          exact mreti (w := (wC g q)) (u := (C23, N)) hC hr hlocks hK hw h dX5_sheet_57
      · replace h := h.2 c30
        refine lv_aload_n hx hb dX5_sheet_39 rfl (lv_at hl 0 rfl) ?_
        refine lv_bipush (v := (6 : Int32)) hx hb dX5_sheet_40 (by decide) ?_
        refine mcalli (w1 := (wC g q)) (va_runV (As := [.int (6 : Int32)]) (rest := []) hC (kX5_finding l g aK aV q H.size C N (6 : Int32) _ h) (cwV 1 hts gX5_sheet_X5_finding rfl rfl rfl (by decide +kernel) ⟨Nat.le_of_ble_eq_true rfl, Nat.le_of_ble_eq_true rfl⟩) (mpreV (E5_ok aK aV) hK hE hA hw (Sub1.refl _) 0 rfl rfl) rfl rfl hl.1 rfl (lv_room (Nat.le_of_ble_eq_true rfl)) dX5_sheet_42 ⟨Nat.zero_le _, Nat.zero_le _⟩) hA hw (Sub1.refl _) (fun u9 => Sub.whole (wC_map u9.1 u9.2)) (fun r26 u27 H locs h hw => ?_)
        obtain ⟨C28, N29⟩ := u27
        obtain ⟨hu, h⟩ := h
        replace hu : N = N29 := hu.symm
        subst hu
        rw [hQ]
        exact mreti (w := (wC g q)) (u := (C28, N)) hC hr hlocks hK hw h dX5_sheet_45
    refine lv_if_eq (tgt := 35) hx hb dX5_sheet_8 (by decide) (fun c34 => ?_) (fun c34 => ?_)
    · replace h := h.1 c34
      exact join12  _ _ _ h hw (lv_sub hl [0, 1, 2, 3] rfl)
    · replace h := h.2 c34
      refine lv_iload_n hx hb dX5_sheet_11 rfl (lv_at hl 2 rfl) ?_
      refine lv_bipush (v := (8 : Int32)) hx hb dX5_sheet_12 (by decide) ?_
      refine lv_icmp_eq (tgt := 35) hx hb dX5_sheet_14 (by decide) (fun c33 => ?_) (fun c33 => ?_)
      · replace h := h.1 c33
        exact join12  _ _ _ h hw (lv_sub hl [0, 1, 2, 3] rfl)
      · replace h := h.2 c33
        refine lv_iload_n hx hb dX5_sheet_17 rfl (lv_at hl 2 rfl) ?_
        refine lv_bipush (v := (16 : Int32)) hx hb dX5_sheet_18 (by decide) ?_
        refine lv_icmp_eq (tgt := 35) hx hb dX5_sheet_20 (by decide) (fun c32 => ?_) (fun c32 => ?_)
        · replace h := h.1 c32
          exact join12  _ _ _ h hw (lv_sub hl [0, 1, 2, 3] rfl)
        · replace h := h.2 c32
          refine lv_iload_n hx hb dX5_sheet_23 rfl (lv_at hl 2 rfl) ?_
          refine lv_bipush (v := (64 : Int32)) hx hb dX5_sheet_24 (by decide) ?_
          refine lv_icmp_eq (tgt := 35) hx hb dX5_sheet_26 (by decide) (fun c31 => ?_) (fun c31 => ?_)
          · replace h := h.1 c31
            exact join12  _ _ _ h hw (lv_sub hl [0, 1, 2, 3] rfl)
          · replace h := h.2 c31
            exact join5  _ _ _ h hw (lv_sub hl [0] rfl)
def wX5_write (C : Nat → Bun) (N : Nat → Lon) (a1 : Int32) (a2 : Int32) (a3 : Int64) (post : Int64 → (Nat → Bun) → (Nat → Lon) → Prop) : Prop :=
  wX5_isSheet a1 (fun r1 => ((r1 = 0 → wX5_finding C N (0 : Int32) (fun r25 C27 => post r25.toInt64 C27 N)) ∧ (¬ (r1 = 0) → vp_in a1 4 ∧ (((C (a1.toNatClampNeg + 7) 0 0) = 0 → wX5_finding C N (5 : Int32) (fun r20 C22 => post r20.toInt64 C22 N)) ∧ (¬ ((C (a1.toNatClampNeg + 7) 0 0) = 0) → wjoin (σ := Unit) (fun _ => wX5_finding C N (0 : Int32) (fun r7 C9 => post r7.toInt64 C9 N)) (fun J4 => ((a2 < 0 → J4 ()) ∧ (¬ (a2 < 0) → ((a2 < (C (a1.toNatClampNeg + 7) 0 1) → vp_in a2 40 ∧ ∀ x11 : Int64, x11 = N (a1.toNatClampNeg + 7) 3 a2.toNatClampNeg → wX3_put (C (a1.toNatClampNeg + 7)) (N (a1.toNatClampNeg + 7)) a2 a3 (fun S15 J16 => ∀ C14 : Nat → Bun, C14 = va_up C (a1.toNatClampNeg + 7) S15 → ∀ N17 : Nat → Lon, N17 = va_up N (a1.toNatClampNeg + 7) J16 → post x11 C14 N17)) ∧ (¬ (a2 < (C (a1.toNatClampNeg + 7) 0 1)) → J4 ()))))))))))
set_option maxRecDepth 100000 in
set_option maxHeartbeats 4000000 in
theorem kX5_write (l : Launch) (g : Gl) (aK : Nat → Nat) (aV : Nat → Nat) (q : Nat → Nat → Nat) (sz : Nat) (C : Nat → Bun) (N : Nat → Lon) (a1 : Int32) (a2 : Int32) (a3 : Int64) (post : Int64 → (Nat → Bun) → (Nat → Lon) → Prop) (h : wX5_write C N a1 a2 a3 post) : Met l yX5_write wsX5_write (rmm 1 23) (wPc g (E5 aK aV) ((wC g q) (C, N)) sz [.ref (q 0 0), .int a1, .int a2, .long a3]) (va_Ql (fun (r : Int64) (u : (Nat → Bun) × (Nat → Lon)) => post r u.1 u.2) (wB g (wC g q) (va_A ((wC g q) (C, N)) sz)) (va_A ((wC g q) (C, N)) sz)) 0 0 (va_A ((wC g q) (C, N)) sz) := by
  refine mstart (Qf := fun A => va_Ql (fun (r : Int64) (u : (Nat → Bun) × (Nat → Lon)) => post r u.1 u.2) (wB g (wC g q) A) A) (by decide) rfl (Nat.le_of_ble_eq_true rfl) ?_
  intro p e s m args below meth c A Q H locs ls hC hr hlocks hname hQ hA hK hE hw hl
  have hC : CallFix p m c cX5_write 8 s args wsX5_write RX5 := hC
  obtain ⟨hx, hb, -, hown, hts⟩ := id hC
  have hl : lv_has ls 8 [(0, .ref (q 0 0)), (1, .int a1), (2, .int a2), (3, .long a3)] := hl
  rw [wX5_write] at h
  have hinX3 : ∀ w ∈ wsX30, w ∈ wsX5_write := fun w hw9 => List.mem_cons_of_mem _ (List.mem_append_right _ hw9)
  have hinX5 : ∀ w ∈ wsX50, w ∈ wsX5_write := fun w hw9 => List.mem_cons_of_mem _ (List.mem_append_left _ (List.mem_append_right _ hw9))
  refine lv_iload_n hx hb dX5_write_0 rfl (lv_at hl 1 rfl) ?_
  refine mcalli (w1 := (fun _ => (wC g q) (C, N))) (wc := fun _ : Unit => ([] : va_W)) (u := ()) (va_runS (As := [.int a1]) (rest := []) hC (kX5_isSheet l g aK aV H.size a1 _ h) (va_cwS 1 hts gX5_write_X5_isSheet rfl rfl rfl (by decide +kernel) ⟨Nat.le_of_ble_eq_true rfl, Nat.le_of_ble_eq_true rfl⟩) (mpre (E5_ok aK aV) hK hE hA hw (Sub1.nil _)) rfl rfl hl.1 rfl (lv_room (Nat.le_of_ble_eq_true rfl)) dX5_write_1 ⟨Nat.zero_le _, Nat.zero_le _⟩) hA hw (Sub1.nil _) (fun _ => Sub.nil _) (fun r1 u2 H locs h hw => ?_)
  obtain ⟨_, h⟩ := h
  refine lv_if_ne (tgt := 14) hx hb dX5_write_4 (by decide) (fun c29 => ?_) (fun c29 => ?_)
  · replace h := h.2 c29
    refine lv_aload_n hx hb dX5_write_14 rfl (lv_at hl 0 rfl) ?_
    refine O5_g5 hC hinX5 hK (hw.sub sC1O) (List.mem_of_getElem? (i := 1) rfl) dX5_write_15 ?_
    refine lv_iload_n hx hb dX5_write_18 rfl (lv_at hl 1 rfl) ?_
    obtain ⟨hi3, h⟩ := h
    refine O5_sheets hC hK (hw.sub sC1O) hi3 dX5_write_19 ?_
    refine lv_astore (lv' := [(5, .ref (q (a1.toNatClampNeg + 7) 0)), (0, .ref (q 0 0)), (1, .int a1), (2, .int a2), (3, .long a3)]) hx hb dX5_write_20 hl (by decide) rfl (fun ls hl => ?_)
    refine lv_aload hx hb dX5_write_22 (lv_at hl 0 rfl) ?_
    refine H5_hg0 hC hinX3 hK (hw.sub (sC1H (isH_of hi3))) hE.nFX5_235 dX5_write_24 ?_
    refine lv_if_ne (tgt := 37) hx hb dX5_write_27 (by decide) (fun c24 => ?_) (fun c24 => ?_)
    · replace h := h.2 c24
      refine lv_iload_n hx hb dX5_write_37 rfl (lv_at hl 3 rfl) ?_
      obtain ⟨J4, hJ5, h⟩ := h
      have join6 : ∀  (H : Heap) (locs : List Loc) (ls : Array Slot), J4 () → Wd g.1 A s.heap ((wC g q) (C, N)) H locs → lv_has ls 8 [(0, .ref (q 0 0))] → W p l e (rmm 1 23) s m args below meth c H locs 0 0 Q (F0 m 50 ls []) := by
        intro  H locs ls h hw hl
        replace h := hJ5 () h
        refine lv_aload_n hx hb dX5_write_50 rfl (lv_at hl 0 rfl) ?_
        refine lv_iconst (v := (0 : Int32)) hx hb dX5_write_51 (by decide) ?_
        refine mcalli (w1 := (wC g q)) (va_runV (As := [.int (0 : Int32)]) (rest := []) hC (kX5_finding l g aK aV q H.size C N (0 : Int32) _ h) (cwV 1 hts gX5_write_X5_finding rfl rfl rfl (by decide +kernel) ⟨Nat.le_of_ble_eq_true rfl, Nat.le_of_ble_eq_true rfl⟩) (mpreV (E5_ok aK aV) hK hE hA hw (Sub1.refl _) 0 rfl rfl) rfl rfl hl.1 rfl (lv_room (Nat.le_of_ble_eq_true rfl)) dX5_write_52 ⟨Nat.zero_le _, Nat.zero_le _⟩) hA hw (Sub1.refl _) (fun u9 => Sub.whole (wC_map u9.1 u9.2)) (fun r7 u8 H locs h hw => ?_)
        obtain ⟨C9, N10⟩ := u8
        obtain ⟨hu, h⟩ := h
        replace hu : N = N10 := hu.symm
        subst hu
        refine lv_i2l (v := r7.toInt64) hx hb dX5_write_55 rfl ?_
        rw [hQ]
        exact mretl (w := (wC g q)) (u := (C9, N)) hC hr hlocks hK hw h dX5_write_56
      refine lv_if_lt (tgt := 50) hx hb dX5_write_38 (by decide) (fun c19 => ?_) (fun c19 => ?_)
      · replace h := h.1 c19
        exact join6  _ _ _ h hw (lv_sub hl [1] rfl)
      · replace h := h.2 c19
        refine lv_iload_n hx hb dX5_write_41 rfl (lv_at hl 3 rfl) ?_
        refine lv_aload hx hb dX5_write_42 (lv_at hl 0 rfl) ?_
        refine H5_hg1 hC hinX3 hK (hw.sub (sC1H (isH_of hi3))) hE.nFX5_232 dX5_write_44 ?_
        refine lv_icmp_lt (tgt := 57) hx hb dX5_write_47 (by decide) (fun c18 => ?_) (fun c18 => ?_)
        · replace h := h.1 c18
          refine lv_aload hx hb dX5_write_57 (lv_at hl 0 rfl) ?_
          refine H5_hg2 hC hinX3 hK (hw.sub (sC1H (isH_of hi3))) hE.nFX5_238 dX5_write_59 ?_
          refine lv_iload_n hx hb dX5_write_62 rfl (lv_at hl 3 rfl) ?_
          obtain ⟨hi, h⟩ := h
          refine H5_hl2 hC hK (hw.sub (sC1H (isH_of hi3))) hi dX5_write_63 ?_
          refine lv_topl (fun x11 ex11 => ?_)
          replace h := h x11 ex11
          refine lv_lstore (lv' := [(6, .long x11), (5, .ref (q (a1.toNatClampNeg + 7) 0)), (0, .ref (q 0 0)), (1, .int a1), (2, .int a2), (3, .long a3)]) hx hb dX5_write_64 hl (by decide) rfl (fun ls hl => ?_)
          refine lv_aload hx hb dX5_write_66 (lv_at hl 1 rfl) ?_
          refine lv_iload_n hx hb dX5_write_68 rfl (lv_at hl 4 rfl) ?_
          refine lv_lload_n hx hb dX5_write_69 rfl (lv_at hl 5 rfl) ?_
          refine mcallv (w1 := (fun u9 : Bun × Lon => wC g q (va_up C (a1.toNatClampNeg + 7) u9.1, va_up N (a1.toNatClampNeg + 7) u9.2))) (va_runVN (C := RX3) (As := [.int a2, .long a3]) (rest := []) hC (kX3_put l g aK aV (q (a1.toNatClampNeg + 7)) H.size (C (a1.toNatClampNeg + 7)) (N (a1.toNatClampNeg + 7)) a2 a3 _ h) ⟨va_cnB 2 hts gX5_write_X3_put_n242 rfl rfl rfl hE.nMX5_242 (hts (.initialized RX3) (List.mem_of_getElem? (i := 13) rfl)) (by decide +kernel) ⟨Nat.le_of_ble_eq_true rfl, Nat.le_of_ble_eq_true rfl⟩, (hts (.instanceMethod yX3_put) (List.mem_of_getElem? (i := 12) rfl)), (hts (.selects RX3 yX3_put yX3_put) (List.mem_of_getElem? (i := 14) rfl))⟩ (mpreV (E5_ok aK aV) hK hE hA hw (sC1H (isH_of hi3)) 0 rfl rfl) rfl rfl hl.1 rfl (lv_room (Nat.le_of_ble_eq_true rfl)) dX5_write_70 ⟨Nat.zero_le _, Nat.zero_le _⟩) hA hw (sC1H (isH_of hi3)) (fun u9 => sCH (isH_of hi3) u9) (fun u13 H locs h hw => ?_)
          obtain ⟨S15, J16⟩ := u13
          obtain ⟨C14, eC14⟩ : ∃ z, z = va_up C (a1.toNatClampNeg + 7) S15 := ⟨_, rfl⟩
          replace h := h C14 eC14
          obtain ⟨N17, eN17⟩ : ∃ z, z = va_up N (a1.toNatClampNeg + 7) J16 := ⟨_, rfl⟩
          replace h := h N17 eN17
          replace hw : Wd g.1 A s.heap ((wC g q) (C14, N17)) H locs := by rw [eC14, eN17]; exact hw
          refine lv_lload hx hb dX5_write_73 (lv_at hl 0 rfl) ?_
          rw [hQ]
          exact mretl (w := (wC g q)) (u := (C14, N17)) hC hr hlocks hK hw h dX5_write_75
        · replace h := h.2 c18
          exact join6  _ _ _ h hw (lv_sub hl [1] rfl)
    · replace h := h.1 c24
      refine lv_aload_n hx hb dX5_write_30 rfl (lv_at hl 1 rfl) ?_
      refine lv_iconst (v := (5 : Int32)) hx hb dX5_write_31 (by decide) ?_
      refine mcalli (w1 := (wC g q)) (va_runV (As := [.int (5 : Int32)]) (rest := []) hC (kX5_finding l g aK aV q H.size C N (5 : Int32) _ h) (cwV 1 hts gX5_write_X5_finding rfl rfl rfl (by decide +kernel) ⟨Nat.le_of_ble_eq_true rfl, Nat.le_of_ble_eq_true rfl⟩) (mpreV (E5_ok aK aV) hK hE hA hw (Sub1.refl _) 0 rfl rfl) rfl rfl hl.1 rfl (lv_room (Nat.le_of_ble_eq_true rfl)) dX5_write_32 ⟨Nat.zero_le _, Nat.zero_le _⟩) hA hw (Sub1.refl _) (fun u9 => Sub.whole (wC_map u9.1 u9.2)) (fun r20 u21 H locs h hw => ?_)
      obtain ⟨C22, N23⟩ := u21
      obtain ⟨hu, h⟩ := h
      replace hu : N = N23 := hu.symm
      subst hu
      refine lv_i2l (v := r20.toInt64) hx hb dX5_write_35 rfl ?_
      rw [hQ]
      exact mretl (w := (wC g q)) (u := (C22, N)) hC hr hlocks hK hw h dX5_write_36
  · replace h := h.1 c29
    refine lv_aload_n hx hb dX5_write_7 rfl (lv_at hl 0 rfl) ?_
    refine lv_iconst (v := (0 : Int32)) hx hb dX5_write_8 (by decide) ?_
    refine mcalli (w1 := (wC g q)) (va_runV (As := [.int (0 : Int32)]) (rest := []) hC (kX5_finding l g aK aV q H.size C N (0 : Int32) _ h) (cwV 1 hts gX5_write_X5_finding rfl rfl rfl (by decide +kernel) ⟨Nat.le_of_ble_eq_true rfl, Nat.le_of_ble_eq_true rfl⟩) (mpreV (E5_ok aK aV) hK hE hA hw (Sub1.refl _) 0 rfl rfl) rfl rfl hl.1 rfl (lv_room (Nat.le_of_ble_eq_true rfl)) dX5_write_9 ⟨Nat.zero_le _, Nat.zero_le _⟩) hA hw (Sub1.refl _) (fun u9 => Sub.whole (wC_map u9.1 u9.2)) (fun r25 u26 H locs h hw => ?_)
    obtain ⟨C27, N28⟩ := u26
    obtain ⟨hu, h⟩ := h
    replace hu : N = N28 := hu.symm
    subst hu
    refine lv_i2l (v := r25.toInt64) hx hb dX5_write_12 rfl ?_
    rw [hQ]
    exact mretl (w := (wC g q)) (u := (C27, N)) hC hr hlocks hK hw h dX5_write_13
def wX5_copy (C : Nat → Bun) (N : Nat → Lon) (a1 : Int32) (a2 : Int32) (a3 : Int32) (a4 : Int32) (a5 : Int32) (post : Int32 → (Nat → Bun) → (Nat → Lon) → Prop) : Prop :=
  wX5_isSheet a1 (fun r1 => wjoin (σ := Unit) (fun _ => wX5_finding C N (0 : Int32) (fun r6 C8 => post r6 C8 N)) (fun J3 => ((r1 = 0 → J3 ()) ∧ (¬ (r1 = 0) → wX5_isSheet a3 (fun r10 => ((r10 = 0 → J3 ()) ∧ (¬ (r10 = 0) → vp_in a1 4 ∧ vp_in a3 4 ∧ wjoin (σ := Unit) (fun _ => wX5_finding C N (5 : Int32) (fun r17 C19 => post r17 C19 N)) (fun J14 => (((C (a1.toNatClampNeg + 7) 0 0) = 0 → J14 ()) ∧ (¬ ((C (a1.toNatClampNeg + 7) 0 0) = 0) → (((C (a3.toNatClampNeg + 7) 0 0) = 0 → J14 ()) ∧ (¬ ((C (a3.toNatClampNeg + 7) 0 0) = 0) → (((C (a1.toNatClampNeg + 7) 0 0) = (C (a3.toNatClampNeg + 7) 0 0) → wX3_hasNumbers (C (a1.toNatClampNeg + 7)) (N (a1.toNatClampNeg + 7)) a2 a5 (fun r21 => wjoin (σ := Unit) (fun _ => wX5_finding C N (0 : Int32) (fun r26 C28 => post r26 C28 N)) (fun J23 => ((r21 = 0 → J23 ()) ∧ (¬ (r21 = 0) → wX3_hasNumbers (C (a3.toNatClampNeg + 7)) (N (a3.toNatClampNeg + 7)) a4 a5 (fun r30 => ((r30 = 0 → J23 ()) ∧ (¬ (r30 = 0) → ¬ a2 < 0 ∧ ¬ a4 < 0 ∧ ¬ a5 < 0 ∧ a2.toNatClampNeg + a5.toNatClampNeg ≤ 40 ∧ a4.toNatClampNeg + a5.toNatClampNeg ≤ 40 ∧ ∀ N32 : Nat → Lon, N32 = va_up N (a3.toNatClampNeg + 7) (va_up (N (a3.toNatClampNeg + 7)) 3 (va_cpy (N (a1.toNatClampNeg + 7) 3) (N (a3.toNatClampNeg + 7) 3) a2.toNatClampNeg a4.toNatClampNeg a5.toNatClampNeg)) → post a5 C N32)))))))) ∧ (¬ ((C (a1.toNatClampNeg + 7) 0 0) = (C (a3.toNatClampNeg + 7) 0 0)) → wX5_finding C N (2 : Int32) (fun r35 C37 => post r35 C37 N)))))))))))))))
set_option maxRecDepth 100000 in
set_option maxHeartbeats 4000000 in
theorem kX5_copy (l : Launch) (g : Gl) (aK : Nat → Nat) (aV : Nat → Nat) (q : Nat → Nat → Nat) (sz : Nat) (C : Nat → Bun) (N : Nat → Lon) (a1 : Int32) (a2 : Int32) (a3 : Int32) (a4 : Int32) (a5 : Int32) (post : Int32 → (Nat → Bun) → (Nat → Lon) → Prop) (h : wX5_copy C N a1 a2 a3 a4 a5 post) : Met l yX5_copy wsX5_copy (rmm 1 64) (wPc g (E5 aK aV) ((wC g q) (C, N)) sz [.ref (q 0 0), .int a1, .int a2, .int a3, .int a4, .int a5]) (va_Qi (fun (r : Int32) (u : (Nat → Bun) × (Nat → Lon)) => post r u.1 u.2) (wB g (wC g q) (va_A ((wC g q) (C, N)) sz)) (va_A ((wC g q) (C, N)) sz)) 0 0 (va_A ((wC g q) (C, N)) sz) := by
  refine mstart (Qf := fun A => va_Qi (fun (r : Int32) (u : (Nat → Bun) × (Nat → Lon)) => post r u.1 u.2) (wB g (wC g q) A) A) (by decide) rfl (Nat.le_of_ble_eq_true rfl) ?_
  intro p e s m args below meth c A Q H locs ls hC hr hlocks hname hQ hA hK hE hw hl
  have hC : CallFix p m c cX5_copy 8 s args wsX5_copy RX5 := hC
  obtain ⟨hx, hb, -, hown, hts⟩ := id hC
  have hl : lv_has ls 8 [(0, .ref (q 0 0)), (1, .int a1), (2, .int a2), (3, .int a3), (4, .int a4), (5, .int a5)] := hl
  rw [wX5_copy] at h
  have hinX3 : ∀ w ∈ wsX30, w ∈ wsX5_copy := fun w hw9 => List.mem_cons_of_mem _ (List.mem_append_right _ hw9)
  have hinX5 : ∀ w ∈ wsX50, w ∈ wsX5_copy := fun w hw9 => List.mem_cons_of_mem _ (List.mem_append_left _ (List.mem_append_right _ hw9))
  refine lv_iload_n hx hb dX5_copy_0 rfl (lv_at hl 1 rfl) ?_
  refine mcalli (w1 := (fun _ => (wC g q) (C, N))) (wc := fun _ : Unit => ([] : va_W)) (u := ()) (va_runS (As := [.int a1]) (rest := []) hC (kX5_isSheet l g aK aV H.size a1 _ h) (va_cwS 1 hts gX5_copy_X5_isSheet rfl rfl rfl (by decide +kernel) ⟨Nat.le_of_ble_eq_true rfl, Nat.le_of_ble_eq_true rfl⟩) (mpre (E5_ok aK aV) hK hE hA hw (Sub1.nil _)) rfl rfl hl.1 rfl (lv_room (Nat.le_of_ble_eq_true rfl)) dX5_copy_1 ⟨Nat.zero_le _, Nat.zero_le _⟩) hA hw (Sub1.nil _) (fun _ => Sub.nil _) (fun r1 u2 H locs h hw => ?_)
  obtain ⟨_, h⟩ := h
  obtain ⟨J3, hJ4, h⟩ := h
  have join5 : ∀  (H : Heap) (locs : List Loc) (ls : Array Slot), J3 () → Wd g.1 A s.heap ((wC g q) (C, N)) H locs → lv_has ls 8 [(0, .ref (q 0 0))] → W p l e (rmm 1 64) s m args below meth c H locs 0 0 Q (F0 m 14 ls []) := by
    intro  H locs ls h hw hl
    replace h := hJ4 () h
    refine lv_aload_n hx hb dX5_copy_14 rfl (lv_at hl 0 rfl) ?_
    refine lv_iconst (v := (0 : Int32)) hx hb dX5_copy_15 (by decide) ?_
    refine mcalli (w1 := (wC g q)) (va_runV (As := [.int (0 : Int32)]) (rest := []) hC (kX5_finding l g aK aV q H.size C N (0 : Int32) _ h) (cwV 1 hts gX5_copy_X5_finding rfl rfl rfl (by decide +kernel) ⟨Nat.le_of_ble_eq_true rfl, Nat.le_of_ble_eq_true rfl⟩) (mpreV (E5_ok aK aV) hK hE hA hw (Sub1.refl _) 0 rfl rfl) rfl rfl hl.1 rfl (lv_room (Nat.le_of_ble_eq_true rfl)) dX5_copy_16 ⟨Nat.zero_le _, Nat.zero_le _⟩) hA hw (Sub1.refl _) (fun u9 => Sub.whole (wC_map u9.1 u9.2)) (fun r6 u7 H locs h hw => ?_)
    obtain ⟨C8, N9⟩ := u7
    obtain ⟨hu, h⟩ := h
    replace hu : N = N9 := hu.symm
    subst hu
    rw [hQ]
    exact mreti (w := (wC g q)) (u := (C8, N)) hC hr hlocks hK hw h dX5_copy_19
  refine lv_if_eq (tgt := 14) hx hb dX5_copy_4 (by decide) (fun c43 => ?_) (fun c43 => ?_)
  · replace h := h.1 c43
    exact join5  _ _ _ h hw (lv_sub hl [0] rfl)
  · replace h := h.2 c43
    refine lv_iload_n hx hb dX5_copy_7 rfl (lv_at hl 3 rfl) ?_
    refine mcalli (w1 := (fun _ => (wC g q) (C, N))) (wc := fun _ : Unit => ([] : va_W)) (u := ()) (va_runS (As := [.int a3]) (rest := []) hC (kX5_isSheet l g aK aV H.size a3 _ h) (va_cwS 1 hts gX5_copy_X5_isSheet rfl rfl rfl (by decide +kernel) ⟨Nat.le_of_ble_eq_true rfl, Nat.le_of_ble_eq_true rfl⟩) (mpre (E5_ok aK aV) hK hE hA hw (Sub1.nil _)) rfl rfl hl.1 rfl (lv_room (Nat.le_of_ble_eq_true rfl)) dX5_copy_8 ⟨Nat.zero_le _, Nat.zero_le _⟩) hA hw (Sub1.nil _) (fun _ => Sub.nil _) (fun r10 u11 H locs h hw => ?_)
    obtain ⟨_, h⟩ := h
    refine lv_if_ne (tgt := 20) hx hb dX5_copy_11 (by decide) (fun c42 => ?_) (fun c42 => ?_)
    · replace h := h.2 c42
      refine lv_aload_n hx hb dX5_copy_20 rfl (lv_at hl 0 rfl) ?_
      refine O5_g5 hC hinX5 hK (hw.sub sC1O) (List.mem_of_getElem? (i := 1) rfl) dX5_copy_21 ?_
      refine lv_iload_n hx hb dX5_copy_24 rfl (lv_at hl 1 rfl) ?_
      obtain ⟨hi12, h⟩ := h
      refine O5_sheets hC hK (hw.sub sC1O) hi12 dX5_copy_25 ?_
      refine lv_astore (lv' := [(6, .ref (q (a1.toNatClampNeg + 7) 0)), (0, .ref (q 0 0)), (1, .int a1), (2, .int a2), (3, .int a3), (4, .int a4), (5, .int a5)]) hx hb dX5_copy_26 hl (by decide) rfl (fun ls hl => ?_)
      refine lv_aload_n hx hb dX5_copy_28 rfl (lv_at hl 1 rfl) ?_
      refine O5_g5 hC hinX5 hK (hw.sub sC1O) (List.mem_of_getElem? (i := 1) rfl) dX5_copy_29 ?_
      refine lv_iload_n hx hb dX5_copy_32 rfl (lv_at hl 4 rfl) ?_
      obtain ⟨hi13, h⟩ := h
      refine O5_sheets hC hK (hw.sub sC1O) hi13 dX5_copy_33 ?_
      refine lv_astore (lv' := [(7, .ref (q (a3.toNatClampNeg + 7) 0)), (6, .ref (q (a1.toNatClampNeg + 7) 0)), (0, .ref (q 0 0)), (1, .int a1), (2, .int a2), (3, .int a3), (4, .int a4), (5, .int a5)]) hx hb dX5_copy_34 hl (by decide) rfl (fun ls hl => ?_)
      refine lv_aload hx hb dX5_copy_36 (lv_at hl 1 rfl) ?_
      refine H5_hg0 hC hinX3 hK (hw.sub (sC1H (isH_of hi12))) hE.nFX5_235 dX5_copy_38 ?_
      obtain ⟨J14, hJ15, h⟩ := h
      have join16 : ∀  (H : Heap) (locs : List Loc) (ls : Array Slot), J14 () → Wd g.1 A s.heap ((wC g q) (C, N)) H locs → lv_has ls 8 [(0, .ref (q 0 0))] → W p l e (rmm 1 64) s m args below meth c H locs 0 0 Q (F0 m 52 ls []) := by
        intro  H locs ls h hw hl
        replace h := hJ15 () h
        refine lv_aload_n hx hb dX5_copy_52 rfl (lv_at hl 0 rfl) ?_
        refine lv_iconst (v := (5 : Int32)) hx hb dX5_copy_53 (by decide) ?_
        refine mcalli (w1 := (wC g q)) (va_runV (As := [.int (5 : Int32)]) (rest := []) hC (kX5_finding l g aK aV q H.size C N (5 : Int32) _ h) (cwV 1 hts gX5_copy_X5_finding rfl rfl rfl (by decide +kernel) ⟨Nat.le_of_ble_eq_true rfl, Nat.le_of_ble_eq_true rfl⟩) (mpreV (E5_ok aK aV) hK hE hA hw (Sub1.refl _) 0 rfl rfl) rfl rfl hl.1 rfl (lv_room (Nat.le_of_ble_eq_true rfl)) dX5_copy_54 ⟨Nat.zero_le _, Nat.zero_le _⟩) hA hw (Sub1.refl _) (fun u9 => Sub.whole (wC_map u9.1 u9.2)) (fun r17 u18 H locs h hw => ?_)
        obtain ⟨C19, N20⟩ := u18
        obtain ⟨hu, h⟩ := h
        replace hu : N = N20 := hu.symm
        subst hu
        rw [hQ]
        exact mreti (w := (wC g q)) (u := (C19, N)) hC hr hlocks hK hw h dX5_copy_57
      refine lv_if_eq (tgt := 52) hx hb dX5_copy_41 (by decide) (fun c41 => ?_) (fun c41 => ?_)
      · replace h := h.1 c41
        exact join16  _ _ _ h hw (lv_sub hl [2] rfl)
      · replace h := h.2 c41
        refine lv_aload hx hb dX5_copy_44 (lv_at hl 0 rfl) ?_
        refine H5_hg0 hC hinX3 hK (hw.sub (sC1H (isH_of hi13))) hE.nFX5_235 dX5_copy_46 ?_
        refine lv_if_ne (tgt := 58) hx hb dX5_copy_49 (by decide) (fun c40 => ?_) (fun c40 => ?_)
        · replace h := h.2 c40
          refine lv_aload hx hb dX5_copy_58 (lv_at hl 1 rfl) ?_
          refine H5_hg0 hC hinX3 hK (hw.sub (sC1H (isH_of hi12))) hE.nFX5_235 dX5_copy_60 ?_
          refine lv_aload hx hb dX5_copy_63 (lv_at hl 0 rfl) ?_
          refine H5_hg0 hC hinX3 hK (hw.sub (sC1H (isH_of hi13))) hE.nFX5_235 dX5_copy_65 ?_
          refine lv_icmp_eq (tgt := 77) hx hb dX5_copy_68 (by decide) (fun c39 => ?_) (fun c39 => ?_)
          · replace h := h.1 c39
            refine lv_aload hx hb dX5_copy_77 (lv_at hl 1 rfl) ?_
            refine lv_iload_n hx hb dX5_copy_79 rfl (lv_at hl 4 rfl) ?_
            refine lv_iload hx hb dX5_copy_80 (lv_at hl 7 rfl) ?_
            refine mcalli (w1 := (fun u9 : Bun × Lon => wC g q (va_up C (a1.toNatClampNeg + 7) u9.1, va_up N (a1.toNatClampNeg + 7) u9.2))) (va_runVN (C := RX3) (As := [.int a2, .int a5]) (rest := []) hC (kX3_hasNumbers l g aK aV (q (a1.toNatClampNeg + 7)) H.size (C (a1.toNatClampNeg + 7)) (N (a1.toNatClampNeg + 7)) a2 a5 _ h) ⟨va_cnB 2 hts gX5_copy_X3_hasNumbers_n246 rfl rfl rfl hE.nMX5_246 (hts (.initialized RX3) (List.mem_of_getElem? (i := 17) rfl)) (by decide +kernel) ⟨Nat.le_of_ble_eq_true rfl, Nat.le_of_ble_eq_true rfl⟩, (hts (.instanceMethod yX3_hasNumbers) (List.mem_of_getElem? (i := 16) rfl)), (hts (.selects RX3 yX3_hasNumbers yX3_hasNumbers) (List.mem_of_getElem? (i := 18) rfl))⟩ (mpreV (E5_ok aK aV) hK hE hA hw (sC1H (isH_of hi12)) 0 rfl rfl) rfl rfl hl.1 rfl (lv_room (Nat.le_of_ble_eq_true rfl)) dX5_copy_82 ⟨Nat.zero_le _, Nat.zero_le _⟩) hA hw (sC1H (isH_of hi12)) (fun u9 => sCH (isH_of hi12) u9) (fun r21 u22 H locs h hw => ?_)
            obtain ⟨hu, h⟩ := h
            replace hu := hu.symm
            subst hu
            replace hw : Wd g.1 A s.heap ((wC g q) (C, N)) H locs := by first | exact hw | (simpa only [up_self] using hw)
            obtain ⟨J23, hJ24, h⟩ := h
            have join25 : ∀  (H : Heap) (locs : List Loc) (ls : Array Slot), J23 () → Wd g.1 A s.heap ((wC g q) (C, N)) H locs → lv_has ls 8 [(0, .ref (q 0 0))] → W p l e (rmm 1 64) s m args below meth c H locs 0 0 Q (F0 m 100 ls []) := by
              intro  H locs ls h hw hl
              replace h := hJ24 () h
              refine lv_aload_n hx hb dX5_copy_100 rfl (lv_at hl 0 rfl) ?_
              refine lv_iconst (v := (0 : Int32)) hx hb dX5_copy_101 (by decide) ?_
              refine mcalli (w1 := (wC g q)) (va_runV (As := [.int (0 : Int32)]) (rest := []) hC (kX5_finding l g aK aV q H.size C N (0 : Int32) _ h) (cwV 1 hts gX5_copy_X5_finding rfl rfl rfl (by decide +kernel) ⟨Nat.le_of_ble_eq_true rfl, Nat.le_of_ble_eq_true rfl⟩) (mpreV (E5_ok aK aV) hK hE hA hw (Sub1.refl _) 0 rfl rfl) rfl rfl hl.1 rfl (lv_room (Nat.le_of_ble_eq_true rfl)) dX5_copy_102 ⟨Nat.zero_le _, Nat.zero_le _⟩) hA hw (Sub1.refl _) (fun u9 => Sub.whole (wC_map u9.1 u9.2)) (fun r26 u27 H locs h hw => ?_)
              obtain ⟨C28, N29⟩ := u27
              obtain ⟨hu, h⟩ := h
              replace hu : N = N29 := hu.symm
              subst hu
              rw [hQ]
              exact mreti (w := (wC g q)) (u := (C28, N)) hC hr hlocks hK hw h dX5_copy_105
            refine lv_if_eq (tgt := 100) hx hb dX5_copy_85 (by decide) (fun c34 => ?_) (fun c34 => ?_)
            · replace h := h.1 c34
              exact join25  _ _ _ h hw (lv_sub hl [2] rfl)
            · replace h := h.2 c34
              refine lv_aload hx hb dX5_copy_88 (lv_at hl 0 rfl) ?_
              refine lv_iload hx hb dX5_copy_90 (lv_at hl 6 rfl) ?_
              refine lv_iload hx hb dX5_copy_92 (lv_at hl 7 rfl) ?_
              refine mcalli (w1 := (fun u9 : Bun × Lon => wC g q (va_up C (a3.toNatClampNeg + 7) u9.1, va_up N (a3.toNatClampNeg + 7) u9.2))) (va_runVN (C := RX3) (As := [.int a4, .int a5]) (rest := []) hC (kX3_hasNumbers l g aK aV (q (a3.toNatClampNeg + 7)) H.size (C (a3.toNatClampNeg + 7)) (N (a3.toNatClampNeg + 7)) a4 a5 _ h) ⟨va_cnB 2 hts gX5_copy_X3_hasNumbers_n246 rfl rfl rfl hE.nMX5_246 (hts (.initialized RX3) (List.mem_of_getElem? (i := 17) rfl)) (by decide +kernel) ⟨Nat.le_of_ble_eq_true rfl, Nat.le_of_ble_eq_true rfl⟩, (hts (.instanceMethod yX3_hasNumbers) (List.mem_of_getElem? (i := 16) rfl)), (hts (.selects RX3 yX3_hasNumbers yX3_hasNumbers) (List.mem_of_getElem? (i := 18) rfl))⟩ (mpreV (E5_ok aK aV) hK hE hA hw (sC1H (isH_of hi13)) 0 rfl rfl) rfl rfl hl.1 rfl (lv_room (Nat.le_of_ble_eq_true rfl)) dX5_copy_94 ⟨Nat.zero_le _, Nat.zero_le _⟩) hA hw (sC1H (isH_of hi13)) (fun u9 => sCH (isH_of hi13) u9) (fun r30 u31 H locs h hw => ?_)
              obtain ⟨hu, h⟩ := h
              replace hu := hu.symm
              subst hu
              replace hw : Wd g.1 A s.heap ((wC g q) (C, N)) H locs := by first | exact hw | (simpa only [up_self] using hw)
              refine lv_if_ne (tgt := 106) hx hb dX5_copy_97 (by decide) (fun c33 => ?_) (fun c33 => ?_)
              · replace h := h.2 c33
                refine lv_aload hx hb dX5_copy_106 (lv_at hl 1 rfl) ?_
                refine H5_hg2 hC hinX3 hK (hw.sub (sC1H (isH_of hi12))) hE.nFX5_238 dX5_copy_108 ?_
                refine lv_iload_n hx hb dX5_copy_111 rfl (lv_at hl 4 rfl) ?_
                refine lv_aload hx hb dX5_copy_112 (lv_at hl 0 rfl) ?_
                refine H5_hg2 hC hinX3 hK (hw.sub (sC1H (isH_of hi13))) hE.nFX5_238 dX5_copy_114 ?_
                refine lv_iload hx hb dX5_copy_117 (lv_at hl 6 rfl) ?_
                refine lv_iload hx hb dX5_copy_119 (lv_at hl 7 rfl) ?_
                obtain ⟨h1, h2, h3, h4, h5, h⟩ := h
                refine C_copy (isH_of hi12) (isH_of hi13) hC hl (hts (.methodLink RX5 249 arraycopyName) (List.mem_of_getElem? (i := 2) rfl)) (hts (.native arraycopyName) (List.mem_of_getElem? (i := 3) rfl)) (hts (.static arraycopyName) (List.mem_of_getElem? (i := 4) rfl)) (hts (.initialized "java/lang/System") (List.mem_of_getElem? (i := 5) rfl)) hK hw h1 h2 h3 h4 h5 (Nat.le_of_ble_eq_true rfl) (Nat.le_of_ble_eq_true rfl) dX5_copy_121 (fun N32 H locs eN32 hw => ?_)
                replace h := h N32 eN32
                refine lv_iload hx hb dX5_copy_124 (lv_at hl 7 rfl) ?_
                rw [hQ]
                exact mreti (w := (wC g q)) (u := (C, N32)) hC hr hlocks hK hw h dX5_copy_126
              · replace h := h.1 c33
                exact join25  _ _ _ h hw (lv_sub hl [2] rfl)
          · replace h := h.2 c39
            refine lv_aload_n hx hb dX5_copy_71 rfl (lv_at hl 2 rfl) ?_
            refine lv_iconst (v := (2 : Int32)) hx hb dX5_copy_72 (by decide) ?_
            refine mcalli (w1 := (wC g q)) (va_runV (As := [.int (2 : Int32)]) (rest := []) hC (kX5_finding l g aK aV q H.size C N (2 : Int32) _ h) (cwV 1 hts gX5_copy_X5_finding rfl rfl rfl (by decide +kernel) ⟨Nat.le_of_ble_eq_true rfl, Nat.le_of_ble_eq_true rfl⟩) (mpreV (E5_ok aK aV) hK hE hA hw (Sub1.refl _) 0 rfl rfl) rfl rfl hl.1 rfl (lv_room (Nat.le_of_ble_eq_true rfl)) dX5_copy_73 ⟨Nat.zero_le _, Nat.zero_le _⟩) hA hw (Sub1.refl _) (fun u9 => Sub.whole (wC_map u9.1 u9.2)) (fun r35 u36 H locs h hw => ?_)
            obtain ⟨C37, N38⟩ := u36
            obtain ⟨hu, h⟩ := h
            replace hu : N = N38 := hu.symm
            subst hu
            rw [hQ]
            exact mreti (w := (wC g q)) (u := (C37, N)) hC hr hlocks hK hw h dX5_copy_76
        · replace h := h.1 c40
          exact join16  _ _ _ h hw (lv_sub hl [2] rfl)
    · replace h := h.1 c42
      exact join5  _ _ _ h hw (lv_sub hl [0] rfl)
def wX5_lays (C : Nat → Bun) (N : Nat → Lon) (a1 : Int32) (a2 : Int32) (post : Int32 → (Nat → Bun) → Prop) : Prop :=
  wX5_isSheet a1 (fun r1 => ((r1 = 0 → wX5_finding C N (0 : Int32) (fun r51 C53 => post r51 C53)) ∧ (¬ (r1 = 0) → vp_in a1 4 ∧ (((C (a1.toNatClampNeg + 7) 0 0) = 0 → wX5_finding C N (5 : Int32) (fun r46 C48 => post r46 C48)) ∧ (¬ ((C (a1.toNatClampNeg + 7) 0 0) = 0) → wX1_hasField (C 1) a2 (fun r4 => ((r4 = 0 → wX5_finding C N (0 : Int32) (fun r41 C43 => post r41 C43)) ∧ (¬ (r4 = 0) → wloop (σ := Int32 × Int32 × (Nat → Bun)) (fun K9 z => match z with | (x6, x7, C8) => (((16 : Int32) ≤ x7 → post x6 C8) ∧ (¬ ((16 : Int32) ≤ x7) → (((C8 (a1.toNatClampNeg + 7) 0 1) ≤ x7 → post x6 C8) ∧ (¬ ((C8 (a1.toNatClampNeg + 7) 0 1) ≤ x7) → vp_in x7 40 ∧ ∀ x15 : Int64, x15 = N (a1.toNatClampNeg + 7) 3 x7.toNatClampNeg → (((lg_cmp x15 (0 : Int64)) < 0 → ∀ x16 : Int32, x16 = x7 + (1 : Int32) → K9 (x6, x16, C8)) ∧ (¬ ((lg_cmp x15 (0 : Int64)) < 0) → ((0 < (lg_cmp x15 (2 : Int64)) → ∀ x18 : Int32, x18 = x7 + (1 : Int32) → K9 (x6, x18, C8)) ∧ (¬ (0 < (lg_cmp x15 (2 : Int64))) → wjoin (σ := Int32) (fun y20 => wjoin (σ := Int32) (fun y24 => wX1_layCell (C8 1) a2 x7 y20 y24 (fun S31 => ∀ C30 : Nat → Bun, C30 = va_up C8 1 S31 → ∀ x32 : Int32, x32 = x6 + (1 : Int32) → ∀ x33 : Int32, x33 = x7 + (1 : Int32) → K9 (x32, x33, C30))) (fun J25 => (((lg_cmp x15 (2 : Int64)) = 0 → J25 (1 : Int32)) ∧ (¬ ((lg_cmp x15 (2 : Int64)) = 0) → J25 (0 : Int32))))) (fun J21 => (((lg_cmp x15 (1 : Int64)) = 0 → J21 (1 : Int32)) ∧ (¬ ((lg_cmp x15 (1 : Int64)) = 0) → J21 (0 : Int32))))))))))))) ((0 : Int32), (0 : Int32), C)))))))))
set_option maxRecDepth 100000 in
set_option maxHeartbeats 4000000 in
theorem kX5_lays (l : Launch) (g : Gl) (aK : Nat → Nat) (aV : Nat → Nat) (q : Nat → Nat → Nat) (sz : Nat) (C : Nat → Bun) (N : Nat → Lon) (a1 : Int32) (a2 : Int32) (post : Int32 → (Nat → Bun) → Prop) (h : wX5_lays C N a1 a2 post) : Met l yX5_lays wsX5_lays (rmm 2 50) (wPc g (E5 aK aV) ((wC g q) (C, N)) sz [.ref (q 0 0), .int a1, .int a2]) (va_Qi (fun (r : Int32) (u : (Nat → Bun) × (Nat → Lon)) => u.2 = N ∧ post r u.1) (wB g (wC g q) (va_A ((wC g q) (C, N)) sz)) (va_A ((wC g q) (C, N)) sz)) 0 0 (va_A ((wC g q) (C, N)) sz) := by
  refine mstart (Qf := fun A => va_Qi (fun (r : Int32) (u : (Nat → Bun) × (Nat → Lon)) => u.2 = N ∧ post r u.1) (wB g (wC g q) A) A) (by decide) rfl (Nat.le_of_ble_eq_true rfl) ?_
  intro p e s m args below meth c A Q H locs ls hC hr hlocks hname hQ hA hK hE hw hl
  have hC : CallFix p m c cX5_lays 8 s args wsX5_lays RX5 := hC
  obtain ⟨hx, hb, -, hown, hts⟩ := id hC
  have hl : lv_has ls 8 [(0, .ref (q 0 0)), (1, .int a1), (2, .int a2)] := hl
  rw [wX5_lays] at h
  have hinX3 : ∀ w ∈ wsX30, w ∈ wsX5_lays := fun w hw9 => List.mem_cons_of_mem _ (List.mem_append_left _ (List.mem_append_right _ hw9))
  have hinX5 : ∀ w ∈ wsX50, w ∈ wsX5_lays := fun w hw9 => List.mem_cons_of_mem _ (List.mem_append_left _ (List.mem_append_left _ (List.mem_append_right _ hw9)))
  refine lv_iload_n hx hb dX5_lays_0 rfl (lv_at hl 1 rfl) ?_
  refine mcalli (w1 := (fun _ => (wC g q) (C, N))) (wc := fun _ : Unit => ([] : va_W)) (u := ()) (va_runS (As := [.int a1]) (rest := []) hC (kX5_isSheet l g aK aV H.size a1 _ h) (va_cwS 1 hts gX5_lays_X5_isSheet rfl rfl rfl (by decide +kernel) ⟨Nat.le_of_ble_eq_true rfl, Nat.le_of_ble_eq_true rfl⟩) (mpre (E5_ok aK aV) hK hE hA hw (Sub1.nil _)) rfl rfl hl.1 rfl (lv_room (Nat.le_of_ble_eq_true rfl)) dX5_lays_1 ⟨Nat.zero_le _, Nat.zero_le _⟩) hA hw (Sub1.nil _) (fun _ => Sub.nil _) (fun r1 u2 H locs h hw => ?_)
  obtain ⟨_, h⟩ := h
  refine lv_if_ne (tgt := 13) hx hb dX5_lays_4 (by decide) (fun c55 => ?_) (fun c55 => ?_)
  · replace h := h.2 c55
    refine lv_aload_n hx hb dX5_lays_13 rfl (lv_at hl 0 rfl) ?_
    refine O5_g5 hC hinX5 hK (hw.sub sC1O) (List.mem_of_getElem? (i := 1) rfl) dX5_lays_14 ?_
    refine lv_iload_n hx hb dX5_lays_17 rfl (lv_at hl 1 rfl) ?_
    obtain ⟨hi3, h⟩ := h
    refine O5_sheets hC hK (hw.sub sC1O) hi3 dX5_lays_18 ?_
    refine lv_astore_n (lv' := [(3, .ref (q (a1.toNatClampNeg + 7) 0)), (0, .ref (q 0 0)), (1, .int a1), (2, .int a2)]) hx hb dX5_lays_19 rfl hl (by decide) rfl (fun ls hl => ?_)
    refine lv_aload_n hx hb dX5_lays_20 rfl (lv_at hl 0 rfl) ?_
    refine H5_hg0 hC hinX3 hK (hw.sub (sC1H (isH_of hi3))) hE.nFX5_235 dX5_lays_21 ?_
    refine lv_if_ne (tgt := 33) hx hb dX5_lays_24 (by decide) (fun c50 => ?_) (fun c50 => ?_)
    · replace h := h.2 c50
      refine lv_aload_n hx hb dX5_lays_33 rfl (lv_at hl 1 rfl) ?_
      refine O5_g0 hC hinX5 hK (hw.sub sC1O) (List.mem_of_getElem? (i := 2) rfl) dX5_lays_34 ?_
      refine lv_iload_n hx hb dX5_lays_37 rfl (lv_at hl 3 rfl) ?_
      refine mcalli (w1 := (fun u9 : Bun => wC g q (va_up C 1 u9, N))) (va_runVN (C := RX1) (As := [.int a2]) (rest := []) hC (kX1_hasField l g aK aV (q 1) H.size (C 1) a2 _ h) ⟨va_cnB 1 hts gX5_lays_X1_hasField_n73 rfl rfl rfl hE.nMX5_73 (hts (.initialized RX1) (List.mem_of_getElem? (i := 15) rfl)) (by decide +kernel) ⟨Nat.le_of_ble_eq_true rfl, Nat.le_of_ble_eq_true rfl⟩, (hts (.instanceMethod yX1_hasField) (List.mem_of_getElem? (i := 14) rfl)), (hts (.selects RX1 yX1_hasField yX1_hasField) (List.mem_of_getElem? (i := 16) rfl))⟩ (mpreV (E5_ok aK aV) hK hE hA hw (sC1P isP1) 0 rfl rfl) rfl rfl hl.1 rfl (lv_room (Nat.le_of_ble_eq_true rfl)) dX5_lays_38 ⟨Nat.zero_le _, Nat.zero_le _⟩) hA hw (sC1P isP1) (fun u9 => sCP isP1 u9) (fun r4 u5 H locs h hw => ?_)
      obtain ⟨hu, h⟩ := h
      replace hu := hu.symm
      subst hu
      replace hw : Wd g.1 A s.heap ((wC g q) (C, N)) H locs := by first | exact hw | (simpa only [up_self] using hw)
      refine lv_if_ne (tgt := 50) hx hb dX5_lays_41 (by decide) (fun c45 => ?_) (fun c45 => ?_)
      · replace h := h.2 c45
        refine lv_iconst (v := (0 : Int32)) hx hb dX5_lays_50 (by decide) ?_
        refine lv_istore (lv' := [(4, .int (0 : Int32)), (3, .ref (q (a1.toNatClampNeg + 7) 0)), (0, .ref (q 0 0)), (1, .int a1), (2, .int a2)]) hx hb dX5_lays_51 hl (by decide) rfl (fun ls hl => ?_)
        refine lv_iconst (v := (0 : Int32)) hx hb dX5_lays_53 (by decide) ?_
        refine lv_istore (lv' := [(5, .int (0 : Int32)), (4, .int (0 : Int32)), (3, .ref (q (a1.toNatClampNeg + 7) 0)), (0, .ref (q 0 0)), (1, .int a1), (2, .int a2)]) hx hb dX5_lays_54 hl (by decide) rfl (fun ls hl => ?_)
        refine h (fun z => match z with | (x6, x7, C8) => ∀ (H : Heap) (locs : List Loc) (ls : Array Slot), Wd g.1 A s.heap ((wC g q) (C8, N)) H locs → lv_has ls 8 [(0, .ref (q 0 0)), (2, .int a2), (3, .ref (q (a1.toNatClampNeg + 7) 0)), (4, .int x6), (5, .int x7)] → W p l e (rmm 2 50) s m args below meth c H locs 0 0 Q (F0 m 56 ls [])) ?_ _ _ _ hw (lv_sub hl [3, 5, 2, 1, 0] rfl)
        clear h hw hl
        rintro ⟨x6, x7, C8⟩ h H locs ls hw hl
        refine lv_iload hx hb dX5_lays_56 (lv_at hl 4 rfl) ?_
        refine lv_bipush (v := (16 : Int32)) hx hb dX5_lays_58 (by decide) ?_
        refine lv_icmp_ge (tgt := 142) hx hb dX5_lays_60 (by decide) (fun c40 => ?_) (fun c40 => ?_)
        · replace h := h.1 c40
          refine lv_iload hx hb dX5_lays_142 (lv_at hl 3 rfl) ?_
          rw [hQ]
          exact mreti (w := (wC g q)) (u := (C8, N)) hC hr hlocks hK hw ⟨rfl, h⟩ dX5_lays_144
        · replace h := h.2 c40
          refine lv_iload hx hb dX5_lays_63 (lv_at hl 4 rfl) ?_
          refine lv_aload_n hx hb dX5_lays_65 rfl (lv_at hl 2 rfl) ?_
          refine H5_hg1 hC hinX3 hK (hw.sub (sC1H (isH_of hi3))) hE.nFX5_232 dX5_lays_66 ?_
          refine lv_icmp_ge (tgt := 142) hx hb dX5_lays_69 (by decide) (fun c39 => ?_) (fun c39 => ?_)
          · replace h := h.1 c39
            refine lv_iload hx hb dX5_lays_142 (lv_at hl 3 rfl) ?_
            rw [hQ]
            exact mreti (w := (wC g q)) (u := (C8, N)) hC hr hlocks hK hw ⟨rfl, h⟩ dX5_lays_144
          · replace h := h.2 c39
            refine lv_aload_n hx hb dX5_lays_72 rfl (lv_at hl 2 rfl) ?_
            refine H5_hg2 hC hinX3 hK (hw.sub (sC1H (isH_of hi3))) hE.nFX5_238 dX5_lays_73 ?_
            refine lv_iload hx hb dX5_lays_76 (lv_at hl 4 rfl) ?_
            obtain ⟨hi, h⟩ := h
            refine H5_hl2 hC hK (hw.sub (sC1H (isH_of hi3))) hi dX5_lays_78 ?_
            refine lv_topl (fun x15 ex15 => ?_)
            replace h := h x15 ex15
            refine lv_lstore (lv' := [(6, .long x15), (0, .ref (q 0 0)), (2, .int a2), (3, .ref (q (a1.toNatClampNeg + 7) 0)), (4, .int x6), (5, .int x7)]) hx hb dX5_lays_79 hl (by decide) rfl (fun ls hl => ?_)
            refine lv_lload hx hb dX5_lays_81 (lv_at hl 0 rfl) ?_
            refine lv_lconst (v := (0 : Int64)) hx hb dX5_lays_83 (by decide) ?_
            refine W.lcmp hx hb dX5_lays_84 ?_
            refine lv_if_lt (tgt := 136) hx hb dX5_lays_85 (by decide) (fun c38 => ?_) (fun c38 => ?_)
            · replace h := h.1 c38
              obtain ⟨x16, ex16⟩ : ∃ y : Int32, y = x7 + (1 : Int32) := ⟨_, rfl⟩
              refine lv_iinc (v := x16) (lv' := [(5, .int x16), (6, .long x15), (0, .ref (q 0 0)), (2, .int a2), (3, .ref (q (a1.toNatClampNeg + 7) 0)), (4, .int x6)]) hx hb dX5_lays_136 hl (k := 5) rfl (by rw [ex16]; rfl) (by decide) rfl (fun ls hl => ?_)
              replace h := h x16 ex16
              refine lv_goto (tgt := 56) hx hb dX5_lays_139 (by decide) ?_
              exact h _ _ _ hw (lv_sub hl [2, 3, 4, 5, 0] rfl)
            · replace h := h.2 c38
              refine lv_lload hx hb dX5_lays_88 (lv_at hl 0 rfl) ?_
              refine lv_ldc2 (v := (2 : Int64)) hx hb hown (hts (.constantLong RX5 255 (2)) (List.mem_of_getElem? (i := 3) rfl)) dX5_lays_90 ?_
              refine W.lcmp hx hb dX5_lays_93 ?_
              refine lv_if_gt (tgt := 136) hx hb dX5_lays_94 (by decide) (fun c37 => ?_) (fun c37 => ?_)
              · replace h := h.1 c37
                obtain ⟨x18, ex18⟩ : ∃ y : Int32, y = x7 + (1 : Int32) := ⟨_, rfl⟩
                refine lv_iinc (v := x18) (lv' := [(5, .int x18), (6, .long x15), (0, .ref (q 0 0)), (2, .int a2), (3, .ref (q (a1.toNatClampNeg + 7) 0)), (4, .int x6)]) hx hb dX5_lays_136 hl (k := 5) rfl (by rw [ex18]; rfl) (by decide) rfl (fun ls hl => ?_)
                replace h := h x18 ex18
                refine lv_goto (tgt := 56) hx hb dX5_lays_139 (by decide) ?_
                exact h _ _ _ hw (lv_sub hl [2, 3, 4, 5, 0] rfl)
              · replace h := h.2 c37
                refine lv_aload_n hx hb dX5_lays_97 rfl (lv_at hl 1 rfl) ?_
                refine O5_g0 hC hinX5 hK (hw.sub sC1O) (List.mem_of_getElem? (i := 2) rfl) dX5_lays_98 ?_
                refine lv_iload_n hx hb dX5_lays_101 rfl (lv_at hl 2 rfl) ?_
                refine lv_iload hx hb dX5_lays_102 (lv_at hl 5 rfl) ?_
                refine lv_lload hx hb dX5_lays_104 (lv_at hl 0 rfl) ?_
                refine lv_lconst (v := (1 : Int64)) hx hb dX5_lays_106 (by decide) ?_
                refine W.lcmp hx hb dX5_lays_107 ?_
                obtain ⟨J21, hJ22, h⟩ := h
                have join23 : ∀ (y20 : Int32) (H : Heap) (locs : List Loc) (ls : Array Slot), J21 y20 → Wd g.1 A s.heap ((wC g q) (C8, N)) H locs → lv_has ls 8 [(0, .ref (q 0 0)), (2, .int a2), (3, .ref (q (a1.toNatClampNeg + 7) 0)), (4, .int x6), (5, .int x7), (6, .long x15)] → W p l e (rmm 2 50) s m args below meth c H locs 0 0 Q (F0 m 116 ls [.int y20, .int x7, .int a2, .ref (q 1 0)]) := by
                  intro y20 H locs ls h hw hl
                  replace h := hJ22 y20 h
                  refine lv_lload hx hb dX5_lays_116 (lv_at hl 5 rfl) ?_
                  refine lv_ldc2 (v := (2 : Int64)) hx hb hown (hts (.constantLong RX5 255 (2)) (List.mem_of_getElem? (i := 3) rfl)) dX5_lays_118 ?_
                  refine W.lcmp hx hb dX5_lays_121 ?_
                  obtain ⟨J25, hJ26, h⟩ := h
                  have join27 : ∀ (y24 : Int32) (H : Heap) (locs : List Loc) (ls : Array Slot), J25 y24 → Wd g.1 A s.heap ((wC g q) (C8, N)) H locs → lv_has ls 8 [(0, .ref (q 0 0)), (2, .int a2), (3, .ref (q (a1.toNatClampNeg + 7) 0)), (4, .int x6), (5, .int x7)] → W p l e (rmm 2 50) s m args below meth c H locs 0 0 Q (F0 m 130 ls [.int y24, .int y20, .int x7, .int a2, .ref (q 1 0)]) := by
                    intro y24 H locs ls h hw hl
                    replace h := hJ26 y24 h
                    refine mcallv (w1 := (fun u9 : Bun => wC g q (va_up C8 1 u9, N))) (va_runVN (C := RX1) (As := [.int a2, .int x7, .int y20, .int y24]) (rest := []) hC (kX1_layCell l g aK aV (q 1) H.size (C8 1) a2 x7 y20 y24 _ h) ⟨va_cnB 4 hts gX5_lays_X1_layCell_n257 rfl rfl rfl hE.nMX5_257 (hts (.initialized RX1) (List.mem_of_getElem? (i := 15) rfl)) (by decide +kernel) ⟨Nat.le_of_ble_eq_true rfl, Nat.le_of_ble_eq_true rfl⟩, (hts (.instanceMethod yX1_layCell) (List.mem_of_getElem? (i := 19) rfl)), (hts (.selects RX1 yX1_layCell yX1_layCell) (List.mem_of_getElem? (i := 20) rfl))⟩ (mpreV (E5_ok aK aV) hK hE hA hw (sC1P isP1) 0 rfl rfl) rfl rfl hl.1 rfl (lv_room (Nat.le_of_ble_eq_true rfl)) dX5_lays_130 ⟨Nat.zero_le _, Nat.zero_le _⟩) hA hw (sC1P isP1) (fun u9 => sCP isP1 u9) (fun u29 H locs h hw => ?_)
                    obtain ⟨S31, rfl⟩ : ∃ z, z = u29 := ⟨_, rfl⟩
                    obtain ⟨C30, eC30⟩ : ∃ z, z = va_up C8 1 S31 := ⟨_, rfl⟩
                    replace h := h C30 eC30
                    replace hw : Wd g.1 A s.heap ((wC g q) (C30, N)) H locs := by rw [eC30]; exact hw
                    obtain ⟨x32, ex32⟩ : ∃ y : Int32, y = x6 + (1 : Int32) := ⟨_, rfl⟩
                    refine lv_iinc (v := x32) (lv' := [(4, .int x32), (0, .ref (q 0 0)), (2, .int a2), (3, .ref (q (a1.toNatClampNeg + 7) 0)), (5, .int x7)]) hx hb dX5_lays_133 hl (k := 3) rfl (by rw [ex32]; rfl) (by decide) rfl (fun ls hl => ?_)
                    replace h := h x32 ex32
                    obtain ⟨x33, ex33⟩ : ∃ y : Int32, y = x7 + (1 : Int32) := ⟨_, rfl⟩
                    refine lv_iinc (v := x33) (lv' := [(5, .int x33), (4, .int x32), (0, .ref (q 0 0)), (2, .int a2), (3, .ref (q (a1.toNatClampNeg + 7) 0))]) hx hb dX5_lays_136 hl (k := 4) rfl (by rw [ex33]; rfl) (by decide) rfl (fun ls hl => ?_)
                    replace h := h x33 ex33
                    refine lv_goto (tgt := 56) hx hb dX5_lays_139 (by decide) ?_
                    exact h _ _ _ hw (lv_sub hl [2, 3, 4, 1, 0] rfl)
                  refine lv_if_ne (tgt := 129) hx hb dX5_lays_122 (by decide) (fun c35 => ?_) (fun c35 => ?_)
                  · replace h := h.2 c35
                    refine lv_iconst (v := (0 : Int32)) hx hb dX5_lays_129 (by decide) ?_
                    exact join27 (0 : Int32) _ _ _ h hw (lv_sub hl [0, 1, 2, 3, 4] rfl)
                  · replace h := h.1 c35
                    refine lv_iconst (v := (1 : Int32)) hx hb dX5_lays_125 (by decide) ?_
                    refine lv_goto (tgt := 130) hx hb dX5_lays_126 (by decide) ?_
                    exact join27 (1 : Int32) _ _ _ h hw (lv_sub hl [0, 1, 2, 3, 4] rfl)
                refine lv_if_ne (tgt := 115) hx hb dX5_lays_108 (by decide) (fun c36 => ?_) (fun c36 => ?_)
                · replace h := h.2 c36
                  refine lv_iconst (v := (0 : Int32)) hx hb dX5_lays_115 (by decide) ?_
                  exact join23 (0 : Int32) _ _ _ h hw (lv_sub hl [1, 2, 3, 4, 5, 0] rfl)
                · replace h := h.1 c36
                  refine lv_iconst (v := (1 : Int32)) hx hb dX5_lays_111 (by decide) ?_
                  refine lv_goto (tgt := 116) hx hb dX5_lays_112 (by decide) ?_
                  exact join23 (1 : Int32) _ _ _ h hw (lv_sub hl [1, 2, 3, 4, 5, 0] rfl)
      · replace h := h.1 c45
        refine lv_aload_n hx hb dX5_lays_44 rfl (lv_at hl 1 rfl) ?_
        refine lv_iconst (v := (0 : Int32)) hx hb dX5_lays_45 (by decide) ?_
        refine mcalli (w1 := (wC g q)) (va_runV (As := [.int (0 : Int32)]) (rest := []) hC (kX5_finding l g aK aV q H.size C N (0 : Int32) _ h) (cwV 1 hts gX5_lays_X5_finding rfl rfl rfl (by decide +kernel) ⟨Nat.le_of_ble_eq_true rfl, Nat.le_of_ble_eq_true rfl⟩) (mpreV (E5_ok aK aV) hK hE hA hw (Sub1.refl _) 0 rfl rfl) rfl rfl hl.1 rfl (lv_room (Nat.le_of_ble_eq_true rfl)) dX5_lays_46 ⟨Nat.zero_le _, Nat.zero_le _⟩) hA hw (Sub1.refl _) (fun u9 => Sub.whole (wC_map u9.1 u9.2)) (fun r41 u42 H locs h hw => ?_)
        obtain ⟨C43, N44⟩ := u42
        obtain ⟨hu, h⟩ := h
        replace hu : N = N44 := hu.symm
        subst hu
        rw [hQ]
        exact mreti (w := (wC g q)) (u := (C43, N)) hC hr hlocks hK hw ⟨rfl, h⟩ dX5_lays_49
    · replace h := h.1 c50
      refine lv_aload_n hx hb dX5_lays_27 rfl (lv_at hl 1 rfl) ?_
      refine lv_iconst (v := (5 : Int32)) hx hb dX5_lays_28 (by decide) ?_
      refine mcalli (w1 := (wC g q)) (va_runV (As := [.int (5 : Int32)]) (rest := []) hC (kX5_finding l g aK aV q H.size C N (5 : Int32) _ h) (cwV 1 hts gX5_lays_X5_finding rfl rfl rfl (by decide +kernel) ⟨Nat.le_of_ble_eq_true rfl, Nat.le_of_ble_eq_true rfl⟩) (mpreV (E5_ok aK aV) hK hE hA hw (Sub1.refl _) 0 rfl rfl) rfl rfl hl.1 rfl (lv_room (Nat.le_of_ble_eq_true rfl)) dX5_lays_29 ⟨Nat.zero_le _, Nat.zero_le _⟩) hA hw (Sub1.refl _) (fun u9 => Sub.whole (wC_map u9.1 u9.2)) (fun r46 u47 H locs h hw => ?_)
      obtain ⟨C48, N49⟩ := u47
      obtain ⟨hu, h⟩ := h
      replace hu : N = N49 := hu.symm
      subst hu
      rw [hQ]
      exact mreti (w := (wC g q)) (u := (C48, N)) hC hr hlocks hK hw ⟨rfl, h⟩ dX5_lays_32
  · replace h := h.1 c55
    refine lv_aload_n hx hb dX5_lays_7 rfl (lv_at hl 0 rfl) ?_
    refine lv_iconst (v := (0 : Int32)) hx hb dX5_lays_8 (by decide) ?_
    refine mcalli (w1 := (wC g q)) (va_runV (As := [.int (0 : Int32)]) (rest := []) hC (kX5_finding l g aK aV q H.size C N (0 : Int32) _ h) (cwV 1 hts gX5_lays_X5_finding rfl rfl rfl (by decide +kernel) ⟨Nat.le_of_ble_eq_true rfl, Nat.le_of_ble_eq_true rfl⟩) (mpreV (E5_ok aK aV) hK hE hA hw (Sub1.refl _) 0 rfl rfl) rfl rfl hl.1 rfl (lv_room (Nat.le_of_ble_eq_true rfl)) dX5_lays_9 ⟨Nat.zero_le _, Nat.zero_le _⟩) hA hw (Sub1.refl _) (fun u9 => Sub.whole (wC_map u9.1 u9.2)) (fun r51 u52 H locs h hw => ?_)
    obtain ⟨C53, N54⟩ := u52
    obtain ⟨hu, h⟩ := h
    replace hu : N = N54 := hu.symm
    subst hu
    rw [hQ]
    exact mreti (w := (wC g q)) (u := (C53, N)) hC hr hlocks hK hw ⟨rfl, h⟩ dX5_lays_12
def wX5_lookAt (C : Nat → Bun) (N : Nat → Lon) (a1 : Int32) (a2 : Int32) (a3 : Int32) (post : Int32 → Prop) : Prop :=
  wX5_isSheet a1 (fun r1 => ((r1 = 0 → post (0 : Int32)) ∧ (¬ (r1 = 0) → vp_in a1 4 ∧ (((C (a1.toNatClampNeg + 7) 0 0) = 0 → post (5 : Int32)) ∧ (¬ ((C (a1.toNatClampNeg + 7) 0 0) = 0) → wX1_hasTeam (C 1) a2 (fun r4 => ((r4 = 0 → post (0 : Int32)) ∧ (¬ (r4 = 0) → wX1_hasField (C 1) a3 (fun r6 => ((r6 = 0 → post (0 : Int32)) ∧ (¬ (r6 = 0) → post (-1 : Int32))))))))))))
set_option maxRecDepth 100000 in
set_option maxHeartbeats 4000000 in
theorem kX5_lookAt (l : Launch) (g : Gl) (aK : Nat → Nat) (aV : Nat → Nat) (q : Nat → Nat → Nat) (sz : Nat) (C : Nat → Bun) (N : Nat → Lon) (a1 : Int32) (a2 : Int32) (a3 : Int32) (post : Int32 → Prop) (h : wX5_lookAt C N a1 a2 a3 post) : Met l yX5_lookAt wsX5_lookAt (rmm 1 21) (wPc g (E5 aK aV) ((wC g q) (C, N)) sz [.ref (q 0 0), .int a1, .int a2, .int a3]) (va_Qi (fun (r : Int32) (u : (Nat → Bun) × (Nat → Lon)) => u = (C, N) ∧ post r) (wB g (wC g q) (va_A ((wC g q) (C, N)) sz)) (va_A ((wC g q) (C, N)) sz)) 0 0 (va_A ((wC g q) (C, N)) sz) := by
  refine mstart (Qf := fun A => va_Qi (fun (r : Int32) (u : (Nat → Bun) × (Nat → Lon)) => u = (C, N) ∧ post r) (wB g (wC g q) A) A) (by decide) rfl (Nat.le_of_ble_eq_true rfl) ?_
  intro p e s m args below meth c A Q H locs ls hC hr hlocks hname hQ hA hK hE hw hl
  have hC : CallFix p m c cX5_lookAt 4 s args wsX5_lookAt RX5 := hC
  obtain ⟨hx, hb, -, hown, hts⟩ := id hC
  have hl : lv_has ls 4 [(0, .ref (q 0 0)), (1, .int a1), (2, .int a2), (3, .int a3)] := hl
  rw [wX5_lookAt] at h
  have hinX3 : ∀ w ∈ wsX30, w ∈ wsX5_lookAt := fun w hw9 => List.mem_cons_of_mem _ (List.mem_append_left _ (List.mem_append_right _ hw9))
  have hinX5 : ∀ w ∈ wsX50, w ∈ wsX5_lookAt := fun w hw9 => List.mem_cons_of_mem _ (List.mem_append_left _ (List.mem_append_left _ (List.mem_append_right _ hw9)))
  refine lv_iload_n hx hb dX5_lookAt_0 rfl (lv_at hl 1 rfl) ?_
  refine mcalli (w1 := (fun _ => (wC g q) (C, N))) (wc := fun _ : Unit => ([] : va_W)) (u := ()) (va_runS (As := [.int a1]) (rest := []) hC (kX5_isSheet l g aK aV H.size a1 _ h) (va_cwS 1 hts gX5_lookAt_X5_isSheet rfl rfl rfl (by decide +kernel) ⟨Nat.le_of_ble_eq_true rfl, Nat.le_of_ble_eq_true rfl⟩) (mpre (E5_ok aK aV) hK hE hA hw (Sub1.nil _)) rfl rfl hl.1 rfl (lv_room (Nat.le_of_ble_eq_true rfl)) dX5_lookAt_1 ⟨Nat.zero_le _, Nat.zero_le _⟩) hA hw (Sub1.nil _) (fun _ => Sub.nil _) (fun r1 u2 H locs h hw => ?_)
  obtain ⟨_, h⟩ := h
  refine lv_if_ne (tgt := 9) hx hb dX5_lookAt_4 (by decide) (fun c11 => ?_) (fun c11 => ?_)
  · replace h := h.2 c11
    refine lv_aload_n hx hb dX5_lookAt_9 rfl (lv_at hl 0 rfl) ?_
    refine O5_g5 hC hinX5 hK (hw.sub sC1O) (List.mem_of_getElem? (i := 1) rfl) dX5_lookAt_10 ?_
    refine lv_iload_n hx hb dX5_lookAt_13 rfl (lv_at hl 1 rfl) ?_
    obtain ⟨hi3, h⟩ := h
    refine O5_sheets hC hK (hw.sub sC1O) hi3 dX5_lookAt_14 ?_
    refine H5_hg0 hC hinX3 hK (hw.sub (sC1H (isH_of hi3))) hE.nFX5_235 dX5_lookAt_15 ?_
    refine lv_if_ne (tgt := 23) hx hb dX5_lookAt_18 (by decide) (fun c10 => ?_) (fun c10 => ?_)
    · replace h := h.2 c10
      refine lv_aload_n hx hb dX5_lookAt_23 rfl (lv_at hl 0 rfl) ?_
      refine O5_g0 hC hinX5 hK (hw.sub sC1O) (List.mem_of_getElem? (i := 2) rfl) dX5_lookAt_24 ?_
      refine lv_iload_n hx hb dX5_lookAt_27 rfl (lv_at hl 2 rfl) ?_
      refine mcalli (w1 := (fun u9 : Bun => wC g q (va_up C 1 u9, N))) (va_runVN (C := RX1) (As := [.int a2]) (rest := []) hC (kX1_hasTeam l g aK aV (q 1) H.size (C 1) a2 _ h) ⟨va_cnB 1 hts gX5_lookAt_X1_hasTeam_n116 rfl rfl rfl hE.nMX5_116 (hts (.initialized RX1) (List.mem_of_getElem? (i := 8) rfl)) (by decide +kernel) ⟨Nat.le_of_ble_eq_true rfl, Nat.le_of_ble_eq_true rfl⟩, (hts (.instanceMethod yX1_hasTeam) (List.mem_of_getElem? (i := 7) rfl)), (hts (.selects RX1 yX1_hasTeam yX1_hasTeam) (List.mem_of_getElem? (i := 9) rfl))⟩ (mpreV (E5_ok aK aV) hK hE hA hw (sC1P isP1) 0 rfl rfl) rfl rfl hl.1 rfl (lv_room (Nat.le_of_ble_eq_true rfl)) dX5_lookAt_28 ⟨Nat.zero_le _, Nat.zero_le _⟩) hA hw (sC1P isP1) (fun u9 => sCP isP1 u9) (fun r4 u5 H locs h hw => ?_)
      obtain ⟨hu, h⟩ := h
      replace hu := hu.symm
      subst hu
      replace hw : Wd g.1 A s.heap ((wC g q) (C, N)) H locs := by first | exact hw | (simpa only [up_self] using hw)
      refine lv_if_eq (tgt := 49) hx hb dX5_lookAt_31 (by decide) (fun c9 => ?_) (fun c9 => ?_)
      · replace h := h.1 c9
        refine lv_iconst (v := (0 : Int32)) hx hb dX5_lookAt_49 (by decide) ?_
        rw [hQ]
        exact mreti (w := (wC g q)) (u := (C, N)) hC hr hlocks hK hw ⟨rfl, h⟩ dX5_lookAt_50
      · replace h := h.2 c9
        refine lv_aload_n hx hb dX5_lookAt_34 rfl (lv_at hl 0 rfl) ?_
        refine O5_g0 hC hinX5 hK (hw.sub sC1O) (List.mem_of_getElem? (i := 2) rfl) dX5_lookAt_35 ?_
        refine lv_iload_n hx hb dX5_lookAt_38 rfl (lv_at hl 3 rfl) ?_
        refine mcalli (w1 := (fun u9 : Bun => wC g q (va_up C 1 u9, N))) (va_runVN (C := RX1) (As := [.int a3]) (rest := []) hC (kX1_hasField l g aK aV (q 1) H.size (C 1) a3 _ h) ⟨va_cnB 1 hts gX5_lookAt_X1_hasField_n73 rfl rfl rfl hE.nMX5_73 (hts (.initialized RX1) (List.mem_of_getElem? (i := 8) rfl)) (by decide +kernel) ⟨Nat.le_of_ble_eq_true rfl, Nat.le_of_ble_eq_true rfl⟩, (hts (.instanceMethod yX1_hasField) (List.mem_of_getElem? (i := 12) rfl)), (hts (.selects RX1 yX1_hasField yX1_hasField) (List.mem_of_getElem? (i := 13) rfl))⟩ (mpreV (E5_ok aK aV) hK hE hA hw (sC1P isP1) 0 rfl rfl) rfl rfl hl.1 rfl (lv_room (Nat.le_of_ble_eq_true rfl)) dX5_lookAt_39 ⟨Nat.zero_le _, Nat.zero_le _⟩) hA hw (sC1P isP1) (fun u9 => sCP isP1 u9) (fun r6 u7 H locs h hw => ?_)
        obtain ⟨hu, h⟩ := h
        replace hu := hu.symm
        subst hu
        replace hw : Wd g.1 A s.heap ((wC g q) (C, N)) H locs := by first | exact hw | (simpa only [up_self] using hw)
        refine lv_if_eq (tgt := 49) hx hb dX5_lookAt_42 (by decide) (fun c8 => ?_) (fun c8 => ?_)
        · replace h := h.1 c8
          refine lv_iconst (v := (0 : Int32)) hx hb dX5_lookAt_49 (by decide) ?_
          rw [hQ]
          exact mreti (w := (wC g q)) (u := (C, N)) hC hr hlocks hK hw ⟨rfl, h⟩ dX5_lookAt_50
        · replace h := h.2 c8
          refine lv_iconst (v := (-1 : Int32)) hx hb dX5_lookAt_45 (by decide) ?_
          refine lv_goto (tgt := 50) hx hb dX5_lookAt_46 (by decide) ?_
          rw [hQ]
          exact mreti (w := (wC g q)) (u := (C, N)) hC hr hlocks hK hw ⟨rfl, h⟩ dX5_lookAt_50
    · replace h := h.1 c10
      refine lv_iconst (v := (5 : Int32)) hx hb dX5_lookAt_21 (by decide) ?_
      rw [hQ]
      exact mreti (w := (wC g q)) (u := (C, N)) hC hr hlocks hK hw ⟨rfl, h⟩ dX5_lookAt_22
  · replace h := h.1 c11
    refine lv_iconst (v := (0 : Int32)) hx hb dX5_lookAt_7 (by decide) ?_
    rw [hQ]
    exact mreti (w := (wC g q)) (u := (C, N)) hC hr hlocks hK hw ⟨rfl, h⟩ dX5_lookAt_8
def wX5_draw (C : Nat → Bun) (N : Nat → Lon) (a1 : Int32) (a2 : Int32) (a3 : Int32) (post : Int32 → (Nat → Bun) → (Nat → Lon) → Prop) : Prop :=
  wX5_lookAt C N a1 a2 a3 (fun r1 => ((r1 < 0 → wX5_furrowsOf C N a2 a3 (fun b5 C7 => (((C7 b5 0 6) = 0 → wX5_finding C7 N (3 : Int32) (fun r28 C30 => post r28 C30 N)) ∧ (¬ ((C7 b5 0 6) = 0) → vp_in a1 4 ∧ ∀ x9 : Int32, x9 = (if (C7 b5 0 5) < (C7 (a1.toNatClampNeg + 7) 0 1) then (C7 b5 0 5) else (C7 (a1.toNatClampNeg + 7) 0 1)) → wloop (σ := Int32 × (Nat → Bun) × (Nat → Lon)) (fun K13 z => match z with | (x10, C11, N12) => ((x9 ≤ x10 → post x9 C11 N12) ∧ (¬ (x9 ≤ x10) → vp_in x10 16 ∧ wX3_put (C11 (a1.toNatClampNeg + 7)) (N12 (a1.toNatClampNeg + 7)) x10 ((C11 b5 9 x10.toNatClampNeg).toInt64) (fun S22 J23 => ∀ C21 : Nat → Bun, C21 = va_up C11 (a1.toNatClampNeg + 7) S22 → ∀ N24 : Nat → Lon, N24 = va_up N12 (a1.toNatClampNeg + 7) J23 → ∀ x25 : Int32, x25 = x10 + (1 : Int32) → K13 (x25, C21, N24))))) ((0 : Int32), C7, N))))) ∧ (¬ (r1 < 0) → wX5_finding C N r1 (fun r33 C35 => post r33 C35 N))))
set_option maxRecDepth 100000 in
set_option maxHeartbeats 4000000 in
theorem kX5_draw (l : Launch) (g : Gl) (aK : Nat → Nat) (aV : Nat → Nat) (q : Nat → Nat → Nat) (sz : Nat) (C : Nat → Bun) (N : Nat → Lon) (a1 : Int32) (a2 : Int32) (a3 : Int32) (post : Int32 → (Nat → Bun) → (Nat → Lon) → Prop) (h : wX5_draw C N a1 a2 a3 post) : Met l yX5_draw wsX5_draw (rmm 23 698) (wPc g (E5 aK aV) ((wC g q) (C, N)) sz [.ref (q 0 0), .int a1, .int a2, .int a3]) (va_Qi (fun (r : Int32) (u : (Nat → Bun) × (Nat → Lon)) => post r u.1 u.2) (wB g (wC g q) (va_A ((wC g q) (C, N)) sz)) (va_A ((wC g q) (C, N)) sz)) 0 0 (va_A ((wC g q) (C, N)) sz) := by
  refine mstart (Qf := fun A => va_Qi (fun (r : Int32) (u : (Nat → Bun) × (Nat → Lon)) => post r u.1 u.2) (wB g (wC g q) A) A) (by decide) rfl (Nat.le_of_ble_eq_true rfl) ?_
  intro p e s m args below meth c A Q H locs ls hC hr hlocks hname hQ hA hK hE hw hl
  have hC : CallFix p m c cX5_draw 9 s args wsX5_draw RX5 := hC
  obtain ⟨hx, hb, -, hown, hts⟩ := id hC
  have hl : lv_has ls 9 [(0, .ref (q 0 0)), (1, .int a1), (2, .int a2), (3, .int a3)] := hl
  rw [wX5_draw] at h
  have hinX0 : ∀ w ∈ wsX00, w ∈ wsX5_draw := fun w hw9 => List.mem_cons_of_mem _ (List.mem_append_left _ (List.mem_append_left _ (List.mem_append_left _ (List.mem_append_right _ hw9))))
  have hinX3 : ∀ w ∈ wsX30, w ∈ wsX5_draw := fun w hw9 => List.mem_cons_of_mem _ (List.mem_append_left _ (List.mem_append_right _ hw9))
  have hinX5 : ∀ w ∈ wsX50, w ∈ wsX5_draw := fun w hw9 => List.mem_cons_of_mem _ (List.mem_append_left _ (List.mem_append_left _ (List.mem_append_right _ hw9)))
  refine lv_aload_n hx hb dX5_draw_0 rfl (lv_at hl 0 rfl) ?_
  refine lv_iload_n hx hb dX5_draw_1 rfl (lv_at hl 1 rfl) ?_
  refine lv_iload_n hx hb dX5_draw_2 rfl (lv_at hl 2 rfl) ?_
  refine lv_iload_n hx hb dX5_draw_3 rfl (lv_at hl 3 rfl) ?_
  refine mcalli (w1 := (wC g q)) (va_runV (As := [.int a1, .int a2, .int a3]) (rest := []) hC (kX5_lookAt l g aK aV q H.size C N a1 a2 a3 _ h) (cwV 3 hts gX5_draw_X5_lookAt rfl rfl rfl (by decide +kernel) ⟨Nat.le_of_ble_eq_true rfl, Nat.le_of_ble_eq_true rfl⟩) (mpreV (E5_ok aK aV) hK hE hA hw (Sub1.refl _) 0 rfl rfl) rfl rfl hl.1 rfl (lv_room (Nat.le_of_ble_eq_true rfl)) dX5_draw_4 ⟨Nat.zero_le _, Nat.zero_le _⟩) hA hw (Sub1.refl _) (fun u9 => Sub.whole (wC_map u9.1 u9.2)) (fun r1 u2 H locs h hw => ?_)
  obtain ⟨hu, h⟩ := h
  replace hu := hu.symm
  subst hu
  refine lv_istore (lv' := [(4, .int r1), (0, .ref (q 0 0)), (1, .int a1), (2, .int a2), (3, .int a3)]) hx hb dX5_draw_7 hl (by decide) rfl (fun ls hl => ?_)
  refine lv_iload hx hb dX5_draw_9 (lv_at hl 0 rfl) ?_
  refine lv_if_lt (tgt := 21) hx hb dX5_draw_11 (by decide) (fun c37 => ?_) (fun c37 => ?_)
  · replace h := h.1 c37
    refine lv_aload_n hx hb dX5_draw_21 rfl (lv_at hl 1 rfl) ?_
    refine lv_iload_n hx hb dX5_draw_22 rfl (lv_at hl 3 rfl) ?_
    refine lv_iload_n hx hb dX5_draw_23 rfl (lv_at hl 4 rfl) ?_
    refine mcallr (va_runV (As := [.int a2, .int a3]) (rest := []) hC (kX5_furrowsOf l g aK aV q H.size C N a2 a3 _ h) (cwV 2 hts gX5_draw_X5_furrowsOf rfl rfl rfl (by decide +kernel) ⟨Nat.le_of_ble_eq_true rfl, Nat.le_of_ble_eq_true rfl⟩) (mpreV (E5_ok aK aV) hK hE hA hw (Sub1.refl _) 0 rfl rfl) rfl rfl hl.1 rfl (lv_room (Nat.le_of_ble_eq_true rfl)) dX5_draw_24 ⟨Nat.zero_le _, Nat.zero_le _⟩) hA hw (fun b5 C7 H locs hb6 h hw => ?_)
    refine lv_astore (lv' := [(5, .ref (q b5 0)), (4, .int r1), (0, .ref (q 0 0)), (1, .int a1), (2, .int a2), (3, .int a3)]) hx hb dX5_draw_27 hl (by decide) rfl (fun ls hl => ?_)
    refine lv_aload hx hb dX5_draw_29 (lv_at hl 0 rfl) ?_
    refine F5_fg6 hC hinX0 hK (hw.sub (sC1F hb6)) hE.nFX5_145 dX5_draw_31 ?_
    refine lv_if_ne (tgt := 43) hx hb dX5_draw_34 (by decide) (fun c32 => ?_) (fun c32 => ?_)
    · replace h := h.2 c32
      refine lv_aload_n hx hb dX5_draw_43 rfl (lv_at hl 2 rfl) ?_
      refine O5_g5 hC hinX5 hK (hw.sub sC1O) (List.mem_of_getElem? (i := 1) rfl) dX5_draw_44 ?_
      refine lv_iload_n hx hb dX5_draw_47 rfl (lv_at hl 3 rfl) ?_
      obtain ⟨hi8, h⟩ := h
      refine O5_sheets hC hK (hw.sub sC1O) hi8 dX5_draw_48 ?_
      refine lv_astore (lv' := [(6, .ref (q (a1.toNatClampNeg + 7) 0)), (5, .ref (q b5 0)), (4, .int r1), (0, .ref (q 0 0)), (1, .int a1), (2, .int a2), (3, .int a3)]) hx hb dX5_draw_49 hl (by decide) rfl (fun ls hl => ?_)
      refine lv_aload hx hb dX5_draw_51 (lv_at hl 0 rfl) ?_
      refine H5_hg1 hC hinX3 hK (hw.sub (sC1H (isH_of hi8))) hE.nFX5_232 dX5_draw_53 ?_
      refine lv_aload hx hb dX5_draw_56 (lv_at hl 1 rfl) ?_
      refine F5_fg5 hC hinX0 hK (hw.sub (sC1F hb6)) hE.nFX5_148 dX5_draw_58 ?_
      refine va_mmin (rest := []) hx hb (hC.2.2.1.trans hl.1.symm) hown (hts (.methodLink RX5 264 Lib.Math.min.name) (List.mem_of_getElem? (i := 2) rfl)) (hts (.static Lib.Math.min.name) (List.mem_of_getElem? (i := 3) rfl)) (hts (.initialized "java/lang/Math") (List.mem_of_getElem? (i := 4) rfl)) (hts (.code Lib.Math.min.name Lib.Math.min.code 2 (some .int)) (List.mem_of_getElem? (i := 5) rfl)) (Nat.le_of_ble_eq_true rfl) (Nat.le_of_ble_eq_true rfl) (Nat.zero_le _) (Nat.zero_le _) dX5_draw_61 ?_
      refine lv_topi (fun x9 ex9 => ?_)
      replace h := h x9 ex9
      refine lv_istore (lv' := [(7, .int x9), (6, .ref (q (a1.toNatClampNeg + 7) 0)), (5, .ref (q b5 0)), (4, .int r1), (0, .ref (q 0 0)), (1, .int a1), (2, .int a2), (3, .int a3)]) hx hb dX5_draw_64 hl (by decide) rfl (fun ls hl => ?_)
      refine lv_iconst (v := (0 : Int32)) hx hb dX5_draw_66 (by decide) ?_
      refine lv_istore (lv' := [(8, .int (0 : Int32)), (7, .int x9), (6, .ref (q (a1.toNatClampNeg + 7) 0)), (5, .ref (q b5 0)), (4, .int r1), (0, .ref (q 0 0)), (1, .int a1), (2, .int a2), (3, .int a3)]) hx hb dX5_draw_67 hl (by decide) rfl (fun ls hl => ?_)
      refine h (fun z => match z with | (x10, C11, N12) => ∀ (H : Heap) (locs : List Loc) (ls : Array Slot), Wd g.1 A s.heap ((wC g q) (C11, N12)) H locs → lv_has ls 9 [(5, .ref (q b5 0)), (6, .ref (q (a1.toNatClampNeg + 7) 0)), (7, .int x9), (8, .int x10)] → W p l e (rmm 23 698) s m args below meth c H locs 0 0 Q (F0 m 69 ls [])) ?_ _ _ _ hw (lv_sub hl [3, 2, 1, 0] rfl)
      clear h hw hl
      rintro ⟨x10, C11, N12⟩ h H locs ls hw hl
      refine lv_iload hx hb dX5_draw_69 (lv_at hl 3 rfl) ?_
      refine lv_iload hx hb dX5_draw_71 (lv_at hl 2 rfl) ?_
      refine lv_icmp_ge (tgt := 98) hx hb dX5_draw_73 (by decide) (fun c27 => ?_) (fun c27 => ?_)
      · replace h := h.1 c27
        refine lv_iload hx hb dX5_draw_98 (lv_at hl 2 rfl) ?_
        rw [hQ]
        exact mreti (w := (wC g q)) (u := (C11, N12)) hC hr hlocks hK hw h dX5_draw_100
      · replace h := h.2 c27
        refine lv_aload hx hb dX5_draw_76 (lv_at hl 1 rfl) ?_
        refine lv_iload hx hb dX5_draw_78 (lv_at hl 3 rfl) ?_
        refine lv_aload hx hb dX5_draw_80 (lv_at hl 0 rfl) ?_
        refine F5_fg8 hC hinX0 hK (hw.sub (sC1F hb6)) hE.nFX5_158 dX5_draw_82 ?_
        refine lv_iload hx hb dX5_draw_85 (lv_at hl 3 rfl) ?_
        obtain ⟨hi, h⟩ := h
        refine F5_fl8 hC hK (hw.sub (sC1F hb6)) hi dX5_draw_87 ?_
        refine lv_i2l (v := (C11 b5 9 x10.toNatClampNeg).toInt64) hx hb dX5_draw_88 rfl ?_
        refine mcallv (w1 := (fun u9 : Bun × Lon => wC g q (va_up C11 (a1.toNatClampNeg + 7) u9.1, va_up N12 (a1.toNatClampNeg + 7) u9.2))) (va_runVN (C := RX3) (As := [.int x10, .long ((C11 b5 9 x10.toNatClampNeg).toInt64)]) (rest := []) hC (kX3_put l g aK aV (q (a1.toNatClampNeg + 7)) H.size (C11 (a1.toNatClampNeg + 7)) (N12 (a1.toNatClampNeg + 7)) x10 ((C11 b5 9 x10.toNatClampNeg).toInt64) _ h) ⟨va_cnB 2 hts gX5_draw_X3_put_n242 rfl rfl rfl hE.nMX5_242 (hts (.initialized RX3) (List.mem_of_getElem? (i := 131) rfl)) (by decide +kernel) ⟨Nat.le_of_ble_eq_true rfl, Nat.le_of_ble_eq_true rfl⟩, (hts (.instanceMethod yX3_put) (List.mem_of_getElem? (i := 130) rfl)), (hts (.selects RX3 yX3_put yX3_put) (List.mem_of_getElem? (i := 132) rfl))⟩ (mpreV (E5_ok aK aV) hK hE hA hw (sC1H (isH_of hi8)) 0 rfl rfl) rfl rfl hl.1 rfl (lv_room (Nat.le_of_ble_eq_true rfl)) dX5_draw_89 ⟨Nat.zero_le _, Nat.zero_le _⟩) hA hw (sC1H (isH_of hi8)) (fun u9 => sCH (isH_of hi8) u9) (fun u20 H locs h hw => ?_)
        obtain ⟨S22, J23⟩ := u20
        obtain ⟨C21, eC21⟩ : ∃ z, z = va_up C11 (a1.toNatClampNeg + 7) S22 := ⟨_, rfl⟩
        replace h := h C21 eC21
        obtain ⟨N24, eN24⟩ : ∃ z, z = va_up N12 (a1.toNatClampNeg + 7) J23 := ⟨_, rfl⟩
        replace h := h N24 eN24
        replace hw : Wd g.1 A s.heap ((wC g q) (C21, N24)) H locs := by rw [eC21, eN24]; exact hw
        obtain ⟨x25, ex25⟩ : ∃ y : Int32, y = x10 + (1 : Int32) := ⟨_, rfl⟩
        refine lv_iinc (v := x25) (lv' := [(8, .int x25), (5, .ref (q b5 0)), (6, .ref (q (a1.toNatClampNeg + 7) 0)), (7, .int x9)]) hx hb dX5_draw_92 hl (k := 3) rfl (by rw [ex25]; rfl) (by decide) rfl (fun ls hl => ?_)
        replace h := h x25 ex25
        refine lv_goto (tgt := 69) hx hb dX5_draw_95 (by decide) ?_
        exact h _ _ _ hw (lv_sub hl [1, 2, 3, 0] rfl)
    · replace h := h.1 c32
      refine lv_aload_n hx hb dX5_draw_37 rfl (lv_at hl 2 rfl) ?_
      refine lv_iconst (v := (3 : Int32)) hx hb dX5_draw_38 (by decide) ?_
      refine mcalli (w1 := (wC g q)) (va_runV (As := [.int (3 : Int32)]) (rest := []) hC (kX5_finding l g aK aV q H.size C7 N (3 : Int32) _ h) (cwV 1 hts gX5_draw_X5_finding rfl rfl rfl (by decide +kernel) ⟨Nat.le_of_ble_eq_true rfl, Nat.le_of_ble_eq_true rfl⟩) (mpreV (E5_ok aK aV) hK hE hA hw (Sub1.refl _) 0 rfl rfl) rfl rfl hl.1 rfl (lv_room (Nat.le_of_ble_eq_true rfl)) dX5_draw_39 ⟨Nat.zero_le _, Nat.zero_le _⟩) hA hw (Sub1.refl _) (fun u9 => Sub.whole (wC_map u9.1 u9.2)) (fun r28 u29 H locs h hw => ?_)
      obtain ⟨C30, N31⟩ := u29
      obtain ⟨hu, h⟩ := h
      replace hu : N = N31 := hu.symm
      subst hu
      rw [hQ]
      exact mreti (w := (wC g q)) (u := (C30, N)) hC hr hlocks hK hw h dX5_draw_42
  · replace h := h.2 c37
    refine lv_aload_n hx hb dX5_draw_14 rfl (lv_at hl 1 rfl) ?_
    refine lv_iload hx hb dX5_draw_15 (lv_at hl 0 rfl) ?_
    refine mcalli (w1 := (wC g q)) (va_runV (As := [.int r1]) (rest := []) hC (kX5_finding l g aK aV q H.size C N r1 _ h) (cwV 1 hts gX5_draw_X5_finding rfl rfl rfl (by decide +kernel) ⟨Nat.le_of_ble_eq_true rfl, Nat.le_of_ble_eq_true rfl⟩) (mpreV (E5_ok aK aV) hK hE hA hw (Sub1.refl _) 0 rfl rfl) rfl rfl hl.1 rfl (lv_room (Nat.le_of_ble_eq_true rfl)) dX5_draw_17 ⟨Nat.zero_le _, Nat.zero_le _⟩) hA hw (Sub1.refl _) (fun u9 => Sub.whole (wC_map u9.1 u9.2)) (fun r33 u34 H locs h hw => ?_)
    obtain ⟨C35, N36⟩ := u34
    obtain ⟨hu, h⟩ := h
    replace hu : N = N36 := hu.symm
    subst hu
    rw [hQ]
    exact mreti (w := (wC g q)) (u := (C35, N)) hC hr hlocks hK hw h dX5_draw_20
def wX5_read (C : Nat → Bun) (N : Nat → Lon) (a1 : Int32) (a2 : Int32) (a3 : Int32) (post : Int32 → (Nat → Bun) → Prop) : Prop :=
  wX5_lookAt C N a1 a2 a3 (fun r1 => ((r1 < 0 → vp_in a1 4 ∧ wX1_earth (C 1) a3 (fun r4 => wX1_mark (C 1) a3 (2 : Int32) (fun r6 => wX1_mark (C 1) a3 (1 : Int32) (fun r8 => wX5_cellsBeside r8 (fun r10 => wloop (σ := Int32 × Int32 × Int32 × Int32 × Int32) (fun K17 z => match z with | (x12, x13, x14, x15, x16) => (((C (a1.toNatClampNeg + 7) 0 1) ≤ x16 → wX1_mark (C 1) a3 (3 : Int32) (fun r23 => wjoin (σ := Int32) (fun y25 => ((y25 = 0 → post (100 : Int32) C) ∧ (¬ (y25 = 0) → post (0 : Int32) C))) (fun J26 => ((x13 < 0 → J26 (0 : Int32)) ∧ (¬ (x13 < 0) → ((x12 = 0 → ((r23 < 0 → J26 (1 : Int32)) ∧ (¬ (r23 < 0) → ((x13 = r23 → J26 (1 : Int32)) ∧ (¬ (x13 = r23) → J26 (0 : Int32)))))) ∧ (¬ (x12 = 0) → J26 (0 : Int32)))))))) ∧ (¬ ((C (a1.toNatClampNeg + 7) 0 1) ≤ x16) → vp_in x16 40 ∧ wX5_cellOf (N (a1.toNatClampNeg + 7) 3 x16.toNatClampNeg) (fun r34 => wjoin (σ := Unit) (fun _ => post ((1 : Int32) + x16) C) (fun J36 => ((r34 < 0 → J36 ()) ∧ (¬ (r34 < 0) → wX5_holds x12 r34 (fun r39 => ((r39 = 0 → J36 ()) ∧ (¬ (r39 = 0) → wjoin (σ := Unit) (fun _ => wjoin (σ := Int32 × Int32) (fun z => match z with | (x44, x45) => ∀ x49 : Int32, x49 = x12 &&& (((1 : Int32) <<< (r34 &&& 31)) ^^^ (-1 : Int32)) → ∀ x50 : Int32, x50 = x16 + (1 : Int32) → K17 (x49, r34, x44, x45, x50)) (fun J46 => ((x16 ≤ 0 → J46 (x14, x15)) ∧ (¬ (x16 ≤ 0) → wX5_directionTo x13 r34 (fun r52 => wjoin (σ := Unit) (fun _ => post ((1 : Int32) + x16) C) (fun J54 => ((r52 < 0 → J54 ()) ∧ (¬ (r52 < 0) → vp_in a2 6 ∧ wX5_mayStep (C 1 5 a2.toNatClampNeg) r10 r34 x14 r52 x15 (fun r57 => ((r57 = 0 → J54 ()) ∧ (¬ (r57 = 0) → wX5_isTurn x14 r52 (fun r59 => J46 (r52, r59))))))))))))) (fun J41 => ((x16 = 0 → ((r6 < 0 → J41 ()) ∧ (¬ (r6 < 0) → ((r34 = r6 → J41 ()) ∧ (¬ (r34 = r6) → J36 ()))))) ∧ (¬ (x16 = 0) → J41 ()))))))))))))) (r4, (-1 : Int32), (-1 : Int32), (0 : Int32), (0 : Int32))))))) ∧ (¬ (r1 < 0) → wX5_finding C N r1 (fun r70 C72 => post r70 C72))))
set_option maxRecDepth 100000 in
set_option maxHeartbeats 4000000 in
theorem kX5_read (l : Launch) (g : Gl) (aK : Nat → Nat) (aV : Nat → Nat) (q : Nat → Nat → Nat) (sz : Nat) (C : Nat → Bun) (N : Nat → Lon) (a1 : Int32) (a2 : Int32) (a3 : Int32) (post : Int32 → (Nat → Bun) → Prop) (h : wX5_read C N a1 a2 a3 post) : Met l yX5_read wsX5_read (rmm 2 47) (wPc g (E5 aK aV) ((wC g q) (C, N)) sz [.ref (q 0 0), .int a1, .int a2, .int a3]) (va_Qi (fun (r : Int32) (u : (Nat → Bun) × (Nat → Lon)) => u.2 = N ∧ post r u.1) (wB g (wC g q) (va_A ((wC g q) (C, N)) sz)) (va_A ((wC g q) (C, N)) sz)) 0 0 (va_A ((wC g q) (C, N)) sz) := by
  refine mstart (Qf := fun A => va_Qi (fun (r : Int32) (u : (Nat → Bun) × (Nat → Lon)) => u.2 = N ∧ post r u.1) (wB g (wC g q) A) A) (by decide) rfl (Nat.le_of_ble_eq_true rfl) ?_
  intro p e s m args below meth c A Q H locs ls hC hr hlocks hname hQ hA hK hE hw hl
  have hC : CallFix p m c cX5_read 15 s args wsX5_read RX5 := hC
  obtain ⟨hx, hb, -, hown, hts⟩ := id hC
  have hl : lv_has ls 15 [(0, .ref (q 0 0)), (1, .int a1), (2, .int a2), (3, .int a3)] := hl
  rw [wX5_read] at h
  have hinX1 : ∀ w ∈ wsX10, w ∈ wsX5_read := fun w hw9 => List.mem_cons_of_mem _ (List.mem_append_right _ hw9)
  have hinX3 : ∀ w ∈ wsX30, w ∈ wsX5_read := fun w hw9 => List.mem_cons_of_mem _ (List.mem_append_left _ (List.mem_append_right _ hw9))
  have hinX5 : ∀ w ∈ wsX50, w ∈ wsX5_read := fun w hw9 => List.mem_cons_of_mem _ (List.mem_append_left _ (List.mem_append_left _ (List.mem_append_right _ hw9)))
  refine lv_aload_n hx hb dX5_read_0 rfl (lv_at hl 0 rfl) ?_
  refine lv_iload_n hx hb dX5_read_1 rfl (lv_at hl 1 rfl) ?_
  refine lv_iload_n hx hb dX5_read_2 rfl (lv_at hl 2 rfl) ?_
  refine lv_iload_n hx hb dX5_read_3 rfl (lv_at hl 3 rfl) ?_
  refine mcalli (w1 := (wC g q)) (va_runV (As := [.int a1, .int a2, .int a3]) (rest := []) hC (kX5_lookAt l g aK aV q H.size C N a1 a2 a3 _ h) (cwV 3 hts gX5_read_X5_lookAt rfl rfl rfl (by decide +kernel) ⟨Nat.le_of_ble_eq_true rfl, Nat.le_of_ble_eq_true rfl⟩) (mpreV (E5_ok aK aV) hK hE hA hw (Sub1.refl _) 0 rfl rfl) rfl rfl hl.1 rfl (lv_room (Nat.le_of_ble_eq_true rfl)) dX5_read_4 ⟨Nat.zero_le _, Nat.zero_le _⟩) hA hw (Sub1.refl _) (fun u9 => Sub.whole (wC_map u9.1 u9.2)) (fun r1 u2 H locs h hw => ?_)
  obtain ⟨hu, h⟩ := h
  replace hu := hu.symm
  subst hu
  refine lv_istore (lv' := [(4, .int r1), (0, .ref (q 0 0)), (1, .int a1), (2, .int a2), (3, .int a3)]) hx hb dX5_read_7 hl (by decide) rfl (fun ls hl => ?_)
  refine lv_iload hx hb dX5_read_9 (lv_at hl 0 rfl) ?_
  refine lv_if_lt (tgt := 21) hx hb dX5_read_11 (by decide) (fun c74 => ?_) (fun c74 => ?_)
  · replace h := h.1 c74
    refine lv_aload_n hx hb dX5_read_21 rfl (lv_at hl 1 rfl) ?_
    refine O5_g5 hC hinX5 hK (hw.sub sC1O) (List.mem_of_getElem? (i := 1) rfl) dX5_read_22 ?_
    refine lv_iload_n hx hb dX5_read_25 rfl (lv_at hl 2 rfl) ?_
    obtain ⟨hi3, h⟩ := h
    refine O5_sheets hC hK (hw.sub sC1O) hi3 dX5_read_26 ?_
    refine lv_astore (lv' := [(5, .ref (q (a1.toNatClampNeg + 7) 0)), (4, .int r1), (0, .ref (q 0 0)), (1, .int a1), (2, .int a2), (3, .int a3)]) hx hb dX5_read_27 hl (by decide) rfl (fun ls hl => ?_)
    refine lv_aload_n hx hb dX5_read_29 rfl (lv_at hl 2 rfl) ?_
    refine O5_g0 hC hinX5 hK (hw.sub sC1O) (List.mem_of_getElem? (i := 2) rfl) dX5_read_30 ?_
    refine lv_iload_n hx hb dX5_read_33 rfl (lv_at hl 5 rfl) ?_
    refine mcalli (w1 := (fun u9 : Bun => wC g q (va_up C 1 u9, N))) (va_runVN (C := RX1) (As := [.int a3]) (rest := []) hC (kX1_earth l g aK aV (q 1) H.size (C 1) a3 _ h) ⟨va_cnB 1 hts gX5_read_X1_earth_n77 rfl rfl rfl hE.nMX5_77 (hts (.initialized RX1) (List.mem_of_getElem? (i := 12) rfl)) (by decide +kernel) ⟨Nat.le_of_ble_eq_true rfl, Nat.le_of_ble_eq_true rfl⟩, (hts (.instanceMethod yX1_earth) (List.mem_of_getElem? (i := 26) rfl)), (hts (.selects RX1 yX1_earth yX1_earth) (List.mem_of_getElem? (i := 27) rfl))⟩ (mpreV (E5_ok aK aV) hK hE hA hw (sC1P isP1) 0 rfl rfl) rfl rfl hl.1 rfl (lv_room (Nat.le_of_ble_eq_true rfl)) dX5_read_34 ⟨Nat.zero_le _, Nat.zero_le _⟩) hA hw (sC1P isP1) (fun u9 => sCP isP1 u9) (fun r4 u5 H locs h hw => ?_)
    obtain ⟨hu, h⟩ := h
    replace hu := hu.symm
    subst hu
    replace hw : Wd g.1 A s.heap ((wC g q) (C, N)) H locs := by first | exact hw | (simpa only [up_self] using hw)
    refine lv_istore (lv' := [(6, .int r4), (5, .ref (q (a1.toNatClampNeg + 7) 0)), (4, .int r1), (0, .ref (q 0 0)), (1, .int a1), (2, .int a2), (3, .int a3)]) hx hb dX5_read_37 hl (by decide) rfl (fun ls hl => ?_)
    refine lv_aload_n hx hb dX5_read_39 rfl (lv_at hl 3 rfl) ?_
    refine O5_g0 hC hinX5 hK (hw.sub sC1O) (List.mem_of_getElem? (i := 2) rfl) dX5_read_40 ?_
    refine lv_iload_n hx hb dX5_read_43 rfl (lv_at hl 6 rfl) ?_
    refine lv_iconst (v := (2 : Int32)) hx hb dX5_read_44 (by decide) ?_
    refine mcalli (w1 := (fun u9 : Bun => wC g q (va_up C 1 u9, N))) (va_runVN (C := RX1) (As := [.int a3, .int (2 : Int32)]) (rest := []) hC (kX1_mark l g aK aV (q 1) H.size (C 1) a3 (2 : Int32) _ h) ⟨va_cnB 2 hts gX5_read_X1_mark_n83 rfl rfl rfl hE.nMX5_83 (hts (.initialized RX1) (List.mem_of_getElem? (i := 12) rfl)) (by decide +kernel) ⟨Nat.le_of_ble_eq_true rfl, Nat.le_of_ble_eq_true rfl⟩, (hts (.instanceMethod yX1_mark) (List.mem_of_getElem? (i := 31) rfl)), (hts (.selects RX1 yX1_mark yX1_mark) (List.mem_of_getElem? (i := 32) rfl))⟩ (mpreV (E5_ok aK aV) hK hE hA hw (sC1P isP1) 0 rfl rfl) rfl rfl hl.1 rfl (lv_room (Nat.le_of_ble_eq_true rfl)) dX5_read_45 ⟨Nat.zero_le _, Nat.zero_le _⟩) hA hw (sC1P isP1) (fun u9 => sCP isP1 u9) (fun r6 u7 H locs h hw => ?_)
    obtain ⟨hu, h⟩ := h
    replace hu := hu.symm
    subst hu
    replace hw : Wd g.1 A s.heap ((wC g q) (C, N)) H locs := by first | exact hw | (simpa only [up_self] using hw)
    refine lv_istore (lv' := [(7, .int r6), (6, .int r4), (5, .ref (q (a1.toNatClampNeg + 7) 0)), (4, .int r1), (0, .ref (q 0 0)), (1, .int a1), (2, .int a2), (3, .int a3)]) hx hb dX5_read_48 hl (by decide) rfl (fun ls hl => ?_)
    refine lv_aload_n hx hb dX5_read_50 rfl (lv_at hl 4 rfl) ?_
    refine O5_g0 hC hinX5 hK (hw.sub sC1O) (List.mem_of_getElem? (i := 2) rfl) dX5_read_51 ?_
    refine lv_iload_n hx hb dX5_read_54 rfl (lv_at hl 7 rfl) ?_
    refine lv_iconst (v := (1 : Int32)) hx hb dX5_read_55 (by decide) ?_
    refine mcalli (w1 := (fun u9 : Bun => wC g q (va_up C 1 u9, N))) (va_runVN (C := RX1) (As := [.int a3, .int (1 : Int32)]) (rest := []) hC (kX1_mark l g aK aV (q 1) H.size (C 1) a3 (1 : Int32) _ h) ⟨va_cnB 2 hts gX5_read_X1_mark_n83 rfl rfl rfl hE.nMX5_83 (hts (.initialized RX1) (List.mem_of_getElem? (i := 12) rfl)) (by decide +kernel) ⟨Nat.le_of_ble_eq_true rfl, Nat.le_of_ble_eq_true rfl⟩, (hts (.instanceMethod yX1_mark) (List.mem_of_getElem? (i := 31) rfl)), (hts (.selects RX1 yX1_mark yX1_mark) (List.mem_of_getElem? (i := 32) rfl))⟩ (mpreV (E5_ok aK aV) hK hE hA hw (sC1P isP1) 0 rfl rfl) rfl rfl hl.1 rfl (lv_room (Nat.le_of_ble_eq_true rfl)) dX5_read_56 ⟨Nat.zero_le _, Nat.zero_le _⟩) hA hw (sC1P isP1) (fun u9 => sCP isP1 u9) (fun r8 u9 H locs h hw => ?_)
    obtain ⟨hu, h⟩ := h
    replace hu := hu.symm
    subst hu
    replace hw : Wd g.1 A s.heap ((wC g q) (C, N)) H locs := by first | exact hw | (simpa only [up_self] using hw)
    refine mcalli (w1 := (fun _ => (wC g q) (C, N))) (wc := fun _ : Unit => ([] : va_W)) (u := ()) (va_runS (As := [.int r8]) (rest := []) hC (kX5_cellsBeside l g aK aV H.size r8 _ h) (va_cwS 1 hts gX5_read_X5_cellsBeside rfl rfl rfl (by decide +kernel) ⟨Nat.le_of_ble_eq_true rfl, Nat.le_of_ble_eq_true rfl⟩) (mpre (E5_ok aK aV) hK hE hA hw (Sub1.nil _)) rfl rfl hl.1 rfl (lv_room (Nat.le_of_ble_eq_true rfl)) dX5_read_59 ⟨Nat.zero_le _, Nat.zero_le _⟩) hA hw (Sub1.nil _) (fun _ => Sub.nil _) (fun r10 u11 H locs h hw => ?_)
    obtain ⟨_, h⟩ := h
    refine lv_istore (lv' := [(8, .int r10), (7, .int r6), (6, .int r4), (5, .ref (q (a1.toNatClampNeg + 7) 0)), (4, .int r1), (0, .ref (q 0 0)), (1, .int a1), (2, .int a2), (3, .int a3)]) hx hb dX5_read_62 hl (by decide) rfl (fun ls hl => ?_)
    refine lv_iconst (v := (-1 : Int32)) hx hb dX5_read_64 (by decide) ?_
    refine lv_istore (lv' := [(9, .int (-1 : Int32)), (8, .int r10), (7, .int r6), (6, .int r4), (5, .ref (q (a1.toNatClampNeg + 7) 0)), (4, .int r1), (0, .ref (q 0 0)), (1, .int a1), (2, .int a2), (3, .int a3)]) hx hb dX5_read_65 hl (by decide) rfl (fun ls hl => ?_)
    refine lv_iconst (v := (-1 : Int32)) hx hb dX5_read_67 (by decide) ?_
    refine lv_istore (lv' := [(10, .int (-1 : Int32)), (9, .int (-1 : Int32)), (8, .int r10), (7, .int r6), (6, .int r4), (5, .ref (q (a1.toNatClampNeg + 7) 0)), (4, .int r1), (0, .ref (q 0 0)), (1, .int a1), (2, .int a2), (3, .int a3)]) hx hb dX5_read_68 hl (by decide) rfl (fun ls hl => ?_)
    refine lv_iconst (v := (0 : Int32)) hx hb dX5_read_70 (by decide) ?_
    refine lv_istore (lv' := [(11, .int (0 : Int32)), (10, .int (-1 : Int32)), (9, .int (-1 : Int32)), (8, .int r10), (7, .int r6), (6, .int r4), (5, .ref (q (a1.toNatClampNeg + 7) 0)), (4, .int r1), (0, .ref (q 0 0)), (1, .int a1), (2, .int a2), (3, .int a3)]) hx hb dX5_read_71 hl (by decide) rfl (fun ls hl => ?_)
    refine lv_iconst (v := (0 : Int32)) hx hb dX5_read_73 (by decide) ?_
    refine lv_istore (lv' := [(12, .int (0 : Int32)), (11, .int (0 : Int32)), (10, .int (-1 : Int32)), (9, .int (-1 : Int32)), (8, .int r10), (7, .int r6), (6, .int r4), (5, .ref (q (a1.toNatClampNeg + 7) 0)), (4, .int r1), (0, .ref (q 0 0)), (1, .int a1), (2, .int a2), (3, .int a3)]) hx hb dX5_read_74 hl (by decide) rfl (fun ls hl => ?_)
    refine h (fun z => match z with | (x12, x13, x14, x15, x16) => ∀ (H : Heap) (locs : List Loc) (ls : Array Slot), Wd g.1 A s.heap ((wC g q) (C, N)) H locs → lv_has ls 15 [(0, .ref (q 0 0)), (2, .int a2), (3, .int a3), (5, .ref (q (a1.toNatClampNeg + 7) 0)), (6, .int x12), (7, .int r6), (8, .int r10), (9, .int x13), (10, .int x14), (11, .int x15), (12, .int x16)] → W p l e (rmm 2 47) s m args below meth c H locs 0 0 Q (F0 m 76 ls [])) ?_ _ _ _ hw (lv_sub hl [9, 11, 12, 7, 6, 5, 4, 3, 2, 1, 0] rfl)
    clear h hw hl
    rintro ⟨x12, x13, x14, x15, x16⟩ h H locs ls hw hl
    refine lv_iload hx hb dX5_read_76 (lv_at hl 10 rfl) ?_
    refine lv_aload hx hb dX5_read_78 (lv_at hl 3 rfl) ?_
    refine H5_hg1 hC hinX3 hK (hw.sub (sC1H (isH_of hi3))) hE.nFX5_232 dX5_read_80 ?_
    refine lv_icmp_ge (tgt := 219) hx hb dX5_read_83 (by decide) (fun c69 => ?_) (fun c69 => ?_)
    · replace h := h.1 c69
      refine lv_aload_n hx hb dX5_read_219 rfl (lv_at hl 0 rfl) ?_
      refine O5_g0 hC hinX5 hK (hw.sub sC1O) (List.mem_of_getElem? (i := 2) rfl) dX5_read_220 ?_
      refine lv_iload_n hx hb dX5_read_223 rfl (lv_at hl 2 rfl) ?_
      refine lv_iconst (v := (3 : Int32)) hx hb dX5_read_224 (by decide) ?_
      refine mcalli (w1 := (fun u9 : Bun => wC g q (va_up C 1 u9, N))) (va_runVN (C := RX1) (As := [.int a3, .int (3 : Int32)]) (rest := []) hC (kX1_mark l g aK aV (q 1) H.size (C 1) a3 (3 : Int32) _ h) ⟨va_cnB 2 hts gX5_read_X1_mark_n83 rfl rfl rfl hE.nMX5_83 (hts (.initialized RX1) (List.mem_of_getElem? (i := 12) rfl)) (by decide +kernel) ⟨Nat.le_of_ble_eq_true rfl, Nat.le_of_ble_eq_true rfl⟩, (hts (.instanceMethod yX1_mark) (List.mem_of_getElem? (i := 31) rfl)), (hts (.selects RX1 yX1_mark yX1_mark) (List.mem_of_getElem? (i := 32) rfl))⟩ (mpreV (E5_ok aK aV) hK hE hA hw (sC1P isP1) 0 rfl rfl) rfl rfl hl.1 rfl (lv_room (Nat.le_of_ble_eq_true rfl)) dX5_read_225 ⟨Nat.zero_le _, Nat.zero_le _⟩) hA hw (sC1P isP1) (fun u9 => sCP isP1 u9) (fun r23 u24 H locs h hw => ?_)
      obtain ⟨hu, h⟩ := h
      replace hu := hu.symm
      subst hu
      replace hw : Wd g.1 A s.heap ((wC g q) (C, N)) H locs := by first | exact hw | (simpa only [up_self] using hw)
      refine lv_istore (lv' := [(12, .int r23), (0, .ref (q 0 0)), (2, .int a2), (3, .int a3), (5, .ref (q (a1.toNatClampNeg + 7) 0)), (6, .int x12), (7, .int r6), (8, .int r10), (9, .int x13), (10, .int x14), (11, .int x15)]) hx hb dX5_read_228 hl (by decide) rfl (fun ls hl => ?_)
      refine lv_iload hx hb dX5_read_230 (lv_at hl 8 rfl) ?_
      obtain ⟨J26, hJ27, h⟩ := h
      have join28 : ∀ (y25 : Int32) (H : Heap) (locs : List Loc) (ls : Array Slot), J26 y25 → Wd g.1 A s.heap ((wC g q) (C, N)) H locs → lv_has ls 15 [] → W p l e (rmm 2 47) s m args below meth c H locs 0 0 Q (F0 m 257 ls [.int y25]) := by
        intro y25 H locs ls h hw hl
        replace h := hJ27 y25 h
        refine lv_istore (lv' := [(13, .int y25)]) hx hb dX5_read_257 hl (by decide) rfl (fun ls hl => ?_)
        refine lv_iload hx hb dX5_read_259 (lv_at hl 0 rfl) ?_
        refine lv_if_eq (tgt := 268) hx hb dX5_read_261 (by decide) (fun c29 => ?_) (fun c29 => ?_)
        · replace h := h.1 c29
          refine lv_bipush (v := (100 : Int32)) hx hb dX5_read_268 (by decide) ?_
          rw [hQ]
          exact mreti (w := (wC g q)) (u := (C, N)) hC hr hlocks hK hw ⟨rfl, h⟩ dX5_read_270
        · replace h := h.2 c29
          refine lv_iconst (v := (0 : Int32)) hx hb dX5_read_264 (by decide) ?_
          refine lv_goto (tgt := 270) hx hb dX5_read_265 (by decide) ?_
          rw [hQ]
          exact mreti (w := (wC g q)) (u := (C, N)) hC hr hlocks hK hw ⟨rfl, h⟩ dX5_read_270
      refine lv_if_lt (tgt := 256) hx hb dX5_read_232 (by decide) (fun c33 => ?_) (fun c33 => ?_)
      · replace h := h.1 c33
        refine lv_iconst (v := (0 : Int32)) hx hb dX5_read_256 (by decide) ?_
        exact join28 (0 : Int32) _ _ _ h hw (lv_sub hl [] rfl)
      · replace h := h.2 c33
        refine lv_iload hx hb dX5_read_235 (lv_at hl 5 rfl) ?_
        refine lv_if_ne (tgt := 256) hx hb dX5_read_237 (by decide) (fun c32 => ?_) (fun c32 => ?_)
        · replace h := h.2 c32
          refine lv_iconst (v := (0 : Int32)) hx hb dX5_read_256 (by decide) ?_
          exact join28 (0 : Int32) _ _ _ h hw (lv_sub hl [] rfl)
        · replace h := h.1 c32
          refine lv_iload hx hb dX5_read_240 (lv_at hl 0 rfl) ?_
          refine lv_if_lt (tgt := 252) hx hb dX5_read_242 (by decide) (fun c31 => ?_) (fun c31 => ?_)
          · replace h := h.1 c31
            refine lv_iconst (v := (1 : Int32)) hx hb dX5_read_252 (by decide) ?_
            refine lv_goto (tgt := 257) hx hb dX5_read_253 (by decide) ?_
            exact join28 (1 : Int32) _ _ _ h hw (lv_sub hl [] rfl)
          · replace h := h.2 c31
            refine lv_iload hx hb dX5_read_245 (lv_at hl 8 rfl) ?_
            refine lv_iload hx hb dX5_read_247 (lv_at hl 0 rfl) ?_
            refine lv_icmp_ne (tgt := 256) hx hb dX5_read_249 (by decide) (fun c30 => ?_) (fun c30 => ?_)
            · replace h := h.2 c30
              refine lv_iconst (v := (0 : Int32)) hx hb dX5_read_256 (by decide) ?_
              exact join28 (0 : Int32) _ _ _ h hw (lv_sub hl [] rfl)
            · replace h := h.1 c30
              refine lv_iconst (v := (1 : Int32)) hx hb dX5_read_252 (by decide) ?_
              refine lv_goto (tgt := 257) hx hb dX5_read_253 (by decide) ?_
              exact join28 (1 : Int32) _ _ _ h hw (lv_sub hl [] rfl)
    · replace h := h.2 c69
      refine lv_aload hx hb dX5_read_86 (lv_at hl 3 rfl) ?_
      refine H5_hg2 hC hinX3 hK (hw.sub (sC1H (isH_of hi3))) hE.nFX5_238 dX5_read_88 ?_
      refine lv_iload hx hb dX5_read_91 (lv_at hl 10 rfl) ?_
      obtain ⟨hi, h⟩ := h
      refine H5_hl2 hC hK (hw.sub (sC1H (isH_of hi3))) hi dX5_read_93 ?_
      refine mcalli (w1 := (fun _ => (wC g q) (C, N))) (wc := fun _ : Unit => ([] : va_W)) (u := ()) (va_runS (As := [.long (N (a1.toNatClampNeg + 7) 3 x16.toNatClampNeg)]) (rest := []) hC (kX5_cellOf l g aK aV H.size (N (a1.toNatClampNeg + 7) 3 x16.toNatClampNeg) _ h) (va_cwS 1 hts gX5_read_X5_cellOf rfl rfl rfl (by decide +kernel) ⟨Nat.le_of_ble_eq_true rfl, Nat.le_of_ble_eq_true rfl⟩) (mpre (E5_ok aK aV) hK hE hA hw (Sub1.nil _)) rfl rfl hl.1 rfl (lv_room (Nat.le_of_ble_eq_true rfl)) dX5_read_94 ⟨Nat.zero_le _, Nat.zero_le _⟩) hA hw (Sub1.nil _) (fun _ => Sub.nil _) (fun r34 u35 H locs h hw => ?_)
      obtain ⟨_, h⟩ := h
      refine lv_istore (lv' := [(13, .int r34), (0, .ref (q 0 0)), (2, .int a2), (3, .int a3), (5, .ref (q (a1.toNatClampNeg + 7) 0)), (6, .int x12), (7, .int r6), (8, .int r10), (9, .int x13), (10, .int x14), (11, .int x15), (12, .int x16)]) hx hb dX5_read_97 hl (by decide) rfl (fun ls hl => ?_)
      refine lv_iload hx hb dX5_read_99 (lv_at hl 0 rfl) ?_
      obtain ⟨J36, hJ37, h⟩ := h
      have join38 : ∀  (H : Heap) (locs : List Loc) (ls : Array Slot), J36 () → Wd g.1 A s.heap ((wC g q) (C, N)) H locs → lv_has ls 15 [(12, .int x16)] → W p l e (rmm 2 47) s m args below meth c H locs 0 0 Q (F0 m 131 ls []) := by
        intro  H locs ls h hw hl
        replace h := hJ37 () h
        refine lv_iconst (v := (1 : Int32)) hx hb dX5_read_131 (by decide) ?_
        refine lv_iload hx hb dX5_read_132 (lv_at hl 0 rfl) ?_
        refine lv_iadd hx hb dX5_read_134 ?_
        rw [hQ]
        exact mreti (w := (wC g q)) (u := (C, N)) hC hr hlocks hK hw ⟨rfl, h⟩ dX5_read_135
      refine lv_if_lt (tgt := 131) hx hb dX5_read_101 (by decide) (fun c68 => ?_) (fun c68 => ?_)
      · replace h := h.1 c68
        exact join38  _ _ _ h hw (lv_sub hl [11] rfl)
      · replace h := h.2 c68
        refine lv_iload hx hb dX5_read_104 (lv_at hl 5 rfl) ?_
        refine lv_iload hx hb dX5_read_106 (lv_at hl 0 rfl) ?_
        refine mcalli (w1 := (fun _ => (wC g q) (C, N))) (wc := fun _ : Unit => ([] : va_W)) (u := ()) (va_runS (As := [.int x12, .int r34]) (rest := []) hC (kX5_holds l g aK aV H.size x12 r34 _ h) (va_cwS 2 hts gX5_read_X5_holds rfl rfl rfl (by decide +kernel) ⟨Nat.le_of_ble_eq_true rfl, Nat.le_of_ble_eq_true rfl⟩) (mpre (E5_ok aK aV) hK hE hA hw (Sub1.nil _)) rfl rfl hl.1 rfl (lv_room (Nat.le_of_ble_eq_true rfl)) dX5_read_108 ⟨Nat.zero_le _, Nat.zero_le _⟩) hA hw (Sub1.nil _) (fun _ => Sub.nil _) (fun r39 u40 H locs h hw => ?_)
        obtain ⟨_, h⟩ := h
        refine lv_if_eq (tgt := 131) hx hb dX5_read_111 (by decide) (fun c67 => ?_) (fun c67 => ?_)
        · replace h := h.1 c67
          exact join38  _ _ _ h hw (lv_sub hl [11] rfl)
        · replace h := h.2 c67
          refine lv_iload hx hb dX5_read_114 (lv_at hl 11 rfl) ?_
          obtain ⟨J41, hJ42, h⟩ := h
          have join43 : ∀  (H : Heap) (locs : List Loc) (ls : Array Slot), J41 () → Wd g.1 A s.heap ((wC g q) (C, N)) H locs → lv_has ls 15 [(0, .ref (q 0 0)), (2, .int a2), (3, .int a3), (5, .ref (q (a1.toNatClampNeg + 7) 0)), (6, .int x12), (7, .int r6), (8, .int r10), (9, .int x13), (10, .int x14), (11, .int x15), (12, .int x16), (13, .int r34)] → W p l e (rmm 2 47) s m args below meth c H locs 0 0 Q (F0 m 136 ls []) := by
            intro  H locs ls h hw hl
            replace h := hJ42 () h
            refine lv_iload hx hb dX5_read_136 (lv_at hl 10 rfl) ?_
            obtain ⟨J46, hJ47, h⟩ := h
            have join48 : ∀ (x44 : Int32) (x45 : Int32) (H : Heap) (locs : List Loc) (ls : Array Slot), J46 (x44, x45) → Wd g.1 A s.heap ((wC g q) (C, N)) H locs → lv_has ls 15 [(0, .ref (q 0 0)), (2, .int a2), (3, .int a3), (5, .ref (q (a1.toNatClampNeg + 7) 0)), (6, .int x12), (7, .int r6), (8, .int r10), (10, .int x44), (11, .int x45), (12, .int x16), (13, .int r34)] → W p l e (rmm 2 47) s m args below meth c H locs 0 0 Q (F0 m 198 ls []) := by
              intro x44 x45 H locs ls h hw hl
              replace h := hJ47 (x44, x45) h
              refine lv_iload hx hb dX5_read_198 (lv_at hl 4 rfl) ?_
              refine lv_iconst (v := (1 : Int32)) hx hb dX5_read_200 (by decide) ?_
              refine lv_iload hx hb dX5_read_201 (lv_at hl 10 rfl) ?_
              refine lv_ishl hx hb dX5_read_203 ?_
              refine lv_iconst (v := (-1 : Int32)) hx hb dX5_read_204 (by decide) ?_
              refine lv_ixor hx hb dX5_read_205 ?_
              refine lv_iand hx hb dX5_read_206 ?_
              refine lv_topi (fun x49 ex49 => ?_)
              replace h := h x49 ex49
              refine lv_istore (lv' := [(6, .int x49), (0, .ref (q 0 0)), (2, .int a2), (3, .int a3), (5, .ref (q (a1.toNatClampNeg + 7) 0)), (7, .int r6), (8, .int r10), (10, .int x44), (11, .int x45), (12, .int x16), (13, .int r34)]) hx hb dX5_read_207 hl (by decide) rfl (fun ls hl => ?_)
              refine lv_iload hx hb dX5_read_209 (lv_at hl 10 rfl) ?_
              refine lv_istore (lv' := [(9, .int r34), (6, .int x49), (0, .ref (q 0 0)), (2, .int a2), (3, .int a3), (5, .ref (q (a1.toNatClampNeg + 7) 0)), (7, .int r6), (8, .int r10), (10, .int x44), (11, .int x45), (12, .int x16), (13, .int r34)]) hx hb dX5_read_211 hl (by decide) rfl (fun ls hl => ?_)
              obtain ⟨x50, ex50⟩ : ∃ y : Int32, y = x16 + (1 : Int32) := ⟨_, rfl⟩
              refine lv_iinc (v := x50) (lv' := [(12, .int x50), (9, .int r34), (6, .int x49), (0, .ref (q 0 0)), (2, .int a2), (3, .int a3), (5, .ref (q (a1.toNatClampNeg + 7) 0)), (7, .int r6), (8, .int r10), (10, .int x44), (11, .int x45), (13, .int r34)]) hx hb dX5_read_213 hl (k := 10) rfl (by rw [ex50]; rfl) (by decide) rfl (fun ls hl => ?_)
              replace h := h x50 ex50
              refine lv_goto (tgt := 76) hx hb dX5_read_216 (by decide) ?_
              exact h _ _ _ hw (lv_sub hl [3, 4, 5, 6, 2, 7, 8, 1, 9, 10, 0] rfl)
            refine lv_if_le (tgt := 198) hx hb dX5_read_138 (by decide) (fun c63 => ?_) (fun c63 => ?_)
            · replace h := h.1 c63
              exact join48 x14 x15 _ _ _ h hw (lv_sub hl [0, 1, 2, 3, 4, 5, 6, 8, 9, 10, 11] rfl)
            · replace h := h.2 c63
              refine lv_iload hx hb dX5_read_141 (lv_at hl 7 rfl) ?_
              refine lv_iload hx hb dX5_read_143 (lv_at hl 11 rfl) ?_
              refine mcalli (w1 := (fun _ => (wC g q) (C, N))) (wc := fun _ : Unit => ([] : va_W)) (u := ()) (va_runS (As := [.int x13, .int r34]) (rest := []) hC (kX5_directionTo l g aK aV H.size x13 r34 _ h) (va_cwS 2 hts gX5_read_X5_directionTo rfl rfl rfl (by decide +kernel) ⟨Nat.le_of_ble_eq_true rfl, Nat.le_of_ble_eq_true rfl⟩) (mpre (E5_ok aK aV) hK hE hA hw (Sub1.nil _)) rfl rfl hl.1 rfl (lv_room (Nat.le_of_ble_eq_true rfl)) dX5_read_145 ⟨Nat.zero_le _, Nat.zero_le _⟩) hA hw (Sub1.nil _) (fun _ => Sub.nil _) (fun r52 u53 H locs h hw => ?_)
              obtain ⟨_, h⟩ := h
              refine lv_istore (lv' := [(14, .int r52), (0, .ref (q 0 0)), (2, .int a2), (3, .int a3), (5, .ref (q (a1.toNatClampNeg + 7) 0)), (6, .int x12), (7, .int r6), (8, .int r10), (9, .int x13), (10, .int x14), (11, .int x15), (12, .int x16), (13, .int r34)]) hx hb dX5_read_148 hl (by decide) rfl (fun ls hl => ?_)
              refine lv_iload hx hb dX5_read_150 (lv_at hl 0 rfl) ?_
              obtain ⟨J54, hJ55, h⟩ := h
              have join56 : ∀  (H : Heap) (locs : List Loc) (ls : Array Slot), J54 () → Wd g.1 A s.heap ((wC g q) (C, N)) H locs → lv_has ls 15 [(12, .int x16)] → W p l e (rmm 2 47) s m args below meth c H locs 0 0 Q (F0 m 180 ls []) := by
                intro  H locs ls h hw hl
                replace h := hJ55 () h
                refine lv_iconst (v := (1 : Int32)) hx hb dX5_read_180 (by decide) ?_
                refine lv_iload hx hb dX5_read_181 (lv_at hl 0 rfl) ?_
                refine lv_iadd hx hb dX5_read_183 ?_
                rw [hQ]
                exact mreti (w := (wC g q)) (u := (C, N)) hC hr hlocks hK hw ⟨rfl, h⟩ dX5_read_184
              refine lv_if_lt (tgt := 180) hx hb dX5_read_152 (by decide) (fun c62 => ?_) (fun c62 => ?_)
              · replace h := h.1 c62
                exact join56  _ _ _ h hw (lv_sub hl [11] rfl)
              · replace h := h.2 c62
                refine lv_aload_n hx hb dX5_read_155 rfl (lv_at hl 1 rfl) ?_
                refine O5_g0 hC hinX5 hK (hw.sub sC1O) (List.mem_of_getElem? (i := 2) rfl) dX5_read_156 ?_
                refine P5_pg4 hC hinX1 hK (hw.sub (sC1P isP1)) hE.nFX5_119 dX5_read_159 ?_
                refine lv_iload_n hx hb dX5_read_162 rfl (lv_at hl 2 rfl) ?_
                obtain ⟨hi, h⟩ := h
                refine P5_pl4 hC hK (hw.sub (sC1P isP1)) hi dX5_read_163 ?_
                refine lv_iload hx hb dX5_read_164 (lv_at hl 7 rfl) ?_
                refine lv_iload hx hb dX5_read_166 (lv_at hl 12 rfl) ?_
                refine lv_iload hx hb dX5_read_168 (lv_at hl 9 rfl) ?_
                refine lv_iload hx hb dX5_read_170 (lv_at hl 0 rfl) ?_
                refine lv_iload hx hb dX5_read_172 (lv_at hl 10 rfl) ?_
                refine mcalli (w1 := (fun _ => (wC g q) (C, N))) (wc := fun _ : Unit => ([] : va_W)) (u := ()) (va_runS (As := [.int (C 1 5 a2.toNatClampNeg), .int r10, .int r34, .int x14, .int r52, .int x15]) (rest := []) hC (kX5_mayStep l g aK aV H.size (C 1 5 a2.toNatClampNeg) r10 r34 x14 r52 x15 _ h) (va_cwS 6 hts gX5_read_X5_mayStep rfl rfl rfl (by decide +kernel) ⟨Nat.le_of_ble_eq_true rfl, Nat.le_of_ble_eq_true rfl⟩) (mpre (E5_ok aK aV) hK hE hA hw (Sub1.nil _)) rfl rfl hl.1 rfl (lv_room (Nat.le_of_ble_eq_true rfl)) dX5_read_174 ⟨Nat.zero_le _, Nat.zero_le _⟩) hA hw (Sub1.nil _) (fun _ => Sub.nil _) (fun r57 u58 H locs h hw => ?_)
                obtain ⟨_, h⟩ := h
                refine lv_if_ne (tgt := 185) hx hb dX5_read_177 (by decide) (fun c61 => ?_) (fun c61 => ?_)
                · replace h := h.2 c61
                  refine lv_iload hx hb dX5_read_185 (lv_at hl 9 rfl) ?_
                  refine lv_iload hx hb dX5_read_187 (lv_at hl 0 rfl) ?_
                  refine mcalli (w1 := (fun _ => (wC g q) (C, N))) (wc := fun _ : Unit => ([] : va_W)) (u := ()) (va_runS (As := [.int x14, .int r52]) (rest := []) hC (kX5_isTurn l g aK aV H.size x14 r52 _ h) (va_cwS 2 hts gX5_read_X5_isTurn rfl rfl rfl (by decide +kernel) ⟨Nat.le_of_ble_eq_true rfl, Nat.le_of_ble_eq_true rfl⟩) (mpre (E5_ok aK aV) hK hE hA hw (Sub1.nil _)) rfl rfl hl.1 rfl (lv_room (Nat.le_of_ble_eq_true rfl)) dX5_read_189 ⟨Nat.zero_le _, Nat.zero_le _⟩) hA hw (Sub1.nil _) (fun _ => Sub.nil _) (fun r59 u60 H locs h hw => ?_)
                  obtain ⟨_, h⟩ := h
                  refine lv_istore (lv' := [(11, .int r59), (14, .int r52), (0, .ref (q 0 0)), (2, .int a2), (3, .int a3), (5, .ref (q (a1.toNatClampNeg + 7) 0)), (6, .int x12), (7, .int r6), (8, .int r10), (9, .int x13), (10, .int x14), (12, .int x16), (13, .int r34)]) hx hb dX5_read_192 hl (by decide) rfl (fun ls hl => ?_)
                  refine lv_iload hx hb dX5_read_194 (lv_at hl 1 rfl) ?_
                  refine lv_istore (lv' := [(10, .int r52), (11, .int r59), (14, .int r52), (0, .ref (q 0 0)), (2, .int a2), (3, .int a3), (5, .ref (q (a1.toNatClampNeg + 7) 0)), (6, .int x12), (7, .int r6), (8, .int r10), (9, .int x13), (12, .int x16), (13, .int r34)]) hx hb dX5_read_196 hl (by decide) rfl (fun ls hl => ?_)
                  exact join48 r52 r59 _ _ _ h hw (lv_sub hl [3, 4, 5, 6, 7, 8, 9, 0, 1, 11, 12] rfl)
                · replace h := h.1 c61
                  exact join56  _ _ _ h hw (lv_sub hl [11] rfl)
          refine lv_if_ne (tgt := 136) hx hb dX5_read_116 (by decide) (fun c66 => ?_) (fun c66 => ?_)
          · replace h := h.2 c66
            exact join43  _ _ _ h hw (lv_sub hl [1, 2, 3, 4, 5, 6, 7, 8, 9, 10, 11, 0] rfl)
          · replace h := h.1 c66
            refine lv_iload hx hb dX5_read_119 (lv_at hl 6 rfl) ?_
            refine lv_if_lt (tgt := 136) hx hb dX5_read_121 (by decide) (fun c65 => ?_) (fun c65 => ?_)
            · replace h := h.1 c65
              exact join43  _ _ _ h hw (lv_sub hl [1, 2, 3, 4, 5, 6, 7, 8, 9, 10, 11, 0] rfl)
            · replace h := h.2 c65
              refine lv_iload hx hb dX5_read_124 (lv_at hl 0 rfl) ?_
              refine lv_iload hx hb dX5_read_126 (lv_at hl 6 rfl) ?_
              refine lv_icmp_eq (tgt := 136) hx hb dX5_read_128 (by decide) (fun c64 => ?_) (fun c64 => ?_)
              · replace h := h.1 c64
                exact join43  _ _ _ h hw (lv_sub hl [1, 2, 3, 4, 5, 6, 7, 8, 9, 10, 11, 0] rfl)
              · replace h := h.2 c64
                exact join38  _ _ _ h hw (lv_sub hl [11] rfl)
  · replace h := h.2 c74
    refine lv_aload_n hx hb dX5_read_14 rfl (lv_at hl 1 rfl) ?_
    refine lv_iload hx hb dX5_read_15 (lv_at hl 0 rfl) ?_
    refine mcalli (w1 := (wC g q)) (va_runV (As := [.int r1]) (rest := []) hC (kX5_finding l g aK aV q H.size C N r1 _ h) (cwV 1 hts gX5_read_X5_finding rfl rfl rfl (by decide +kernel) ⟨Nat.le_of_ble_eq_true rfl, Nat.le_of_ble_eq_true rfl⟩) (mpreV (E5_ok aK aV) hK hE hA hw (Sub1.refl _) 0 rfl rfl) rfl rfl hl.1 rfl (lv_room (Nat.le_of_ble_eq_true rfl)) dX5_read_17 ⟨Nat.zero_le _, Nat.zero_le _⟩) hA hw (Sub1.refl _) (fun u9 => Sub.whole (wC_map u9.1 u9.2)) (fun r70 u71 H locs h hw => ?_)
    obtain ⟨C72, N73⟩ := u71
    obtain ⟨hu, h⟩ := h
    replace hu : N = N73 := hu.symm
    subst hu
    rw [hQ]
    exact mreti (w := (wC g q)) (u := (C72, N)) hC hr hlocks hK hw ⟨rfl, h⟩ dX5_read_20
def wX5_image (C : Nat → Bun) (N : Nat → Lon)  (post : Int32 → (Nat → Bun) → Prop) : Prop :=
  wX1_takeFrom (C 2) (C 1)  (fun S4 S5 => ∀ C3 : Nat → Bun, C3 = va_up (va_up C 2 S4) 1 S5 → ∀ C6 : Nat → Bun, C6 = va_up C3 0 (up (C3 0) 0 3 (1 : Int32)) → post (1 : Int32) C6)
set_option maxRecDepth 100000 in
set_option maxHeartbeats 4000000 in
theorem kX5_image (l : Launch) (g : Gl) (aK : Nat → Nat) (aV : Nat → Nat) (q : Nat → Nat → Nat) (sz : Nat) (C : Nat → Bun) (N : Nat → Lon)  (post : Int32 → (Nat → Bun) → Prop) (h : wX5_image C N  post) : Met l yX5_image wsX5_image (rmm 2 85) (wPc g (E5 aK aV) ((wC g q) (C, N)) sz [.ref (q 0 0)]) (va_Qi (fun (r : Int32) (u : (Nat → Bun) × (Nat → Lon)) => u.2 = N ∧ post r u.1) (wB g (wC g q) (va_A ((wC g q) (C, N)) sz)) (va_A ((wC g q) (C, N)) sz)) 0 0 (va_A ((wC g q) (C, N)) sz) := by
  refine mstart (Qf := fun A => va_Qi (fun (r : Int32) (u : (Nat → Bun) × (Nat → Lon)) => u.2 = N ∧ post r u.1) (wB g (wC g q) A) A) (by decide) rfl (Nat.le_of_ble_eq_true rfl) ?_
  intro p e s m args below meth c A Q H locs ls hC hr hlocks hname hQ hA hK hE hw hl
  have hC : CallFix p m c cX5_image 1 s args wsX5_image RX5 := hC
  obtain ⟨hx, hb, -, hown, hts⟩ := id hC
  have hl : lv_has ls 1 [(0, .ref (q 0 0))] := hl
  rw [wX5_image] at h
  have hinX5 : ∀ w ∈ wsX50, w ∈ wsX5_image := fun w hw9 => List.mem_cons_of_mem _ (List.mem_append_left _ (List.mem_append_right _ hw9))
  refine lv_aload_n hx hb dX5_image_0 rfl (lv_at hl 0 rfl) ?_
  refine O5_g1 hC hinX5 hK (hw.sub sC1O) (List.mem_of_getElem? (i := 1) rfl) dX5_image_1 ?_
  refine lv_aload_n hx hb dX5_image_4 rfl (lv_at hl 0 rfl) ?_
  refine O5_g0 hC hinX5 hK (hw.sub sC1O) (List.mem_of_getElem? (i := 2) rfl) dX5_image_5 ?_
  refine mcallv (w1 := (fun u9 : Bun × Bun => wC g q (va_up (va_up C 2 u9.1) 1 u9.2, N))) (va_runVN (C := RX1) (As := [.ref (q 1 0)]) (rest := []) hC (kX1_takeFrom l g aK aV (q 2) (q 1) H.size (C 2) (C 1)  _ h) ⟨va_cnB 1 hts gX5_image_X1_takeFrom_n217 rfl rfl rfl hE.nMX5_217 (hts (.initialized RX1) (List.mem_of_getElem? (i := 5) rfl)) (by decide +kernel) ⟨Nat.le_of_ble_eq_true rfl, Nat.le_of_ble_eq_true rfl⟩, (hts (.instanceMethod yX1_takeFrom) (List.mem_of_getElem? (i := 4) rfl)), (hts (.selects RX1 yX1_takeFrom yX1_takeFrom) (List.mem_of_getElem? (i := 6) rfl))⟩ (mpreV (E5_ok aK aV) hK hE hA hw (sC1PP isP2 isP1 (by decide)) 0 rfl rfl) rfl rfl hl.1 rfl (lv_room (Nat.le_of_ble_eq_true rfl)) dX5_image_8 ⟨Nat.zero_le _, Nat.zero_le _⟩) hA hw (sC1PP isP2 isP1 (by decide)) (fun u9 => sCPP isP2 isP1 (by decide) u9) (fun u2 H locs h hw => ?_)
  obtain ⟨S4, S5⟩ := u2
  obtain ⟨C3, eC3⟩ : ∃ z, z = va_up (va_up C 2 S4) 1 S5 := ⟨_, rfl⟩
  replace h := h C3 eC3
  replace hw : Wd g.1 A s.heap ((wC g q) (C3, N)) H locs := by rw [eC3]; exact hw
  refine lv_aload_n hx hb dX5_image_11 rfl (lv_at hl 0 rfl) ?_
  refine lv_iconst (v := (1 : Int32)) hx hb dX5_image_12 (by decide) ?_
  refine C_p0_3 hC hinX5 hK hw (List.mem_of_getElem? (i := 3) rfl) (Or.inr rfl) dX5_image_13 (fun C6 H locs eC6 hw => ?_)
  replace h := h C6 eC6
  refine lv_iconst (v := (1 : Int32)) hx hb dX5_image_16 (by decide) ?_
  rw [hQ]
  exact mreti (w := (wC g q)) (u := (C6, N)) hC hr hlocks hK hw ⟨rfl, h⟩ dX5_image_17
def wX5_undo (C : Nat → Bun) (N : Nat → Lon)  (post : Int32 → (Nat → Bun) → Prop) : Prop :=
  (((C 0 0 3) = 0 → wX5_finding C N (3 : Int32) (fun r6 C8 => post r6 C8)) ∧ (¬ ((C 0 0 3) = 0) → wX1_takeFrom (C 1) (C 2)  (fun S4 S5 => ∀ C3 : Nat → Bun, C3 = va_up (va_up C 1 S4) 2 S5 → post (C3 1 0 0) C3)))
set_option maxRecDepth 100000 in
set_option maxHeartbeats 4000000 in
theorem kX5_undo (l : Launch) (g : Gl) (aK : Nat → Nat) (aV : Nat → Nat) (q : Nat → Nat → Nat) (sz : Nat) (C : Nat → Bun) (N : Nat → Lon)  (post : Int32 → (Nat → Bun) → Prop) (h : wX5_undo C N  post) : Met l yX5_undo wsX5_undo (rmm 2 85) (wPc g (E5 aK aV) ((wC g q) (C, N)) sz [.ref (q 0 0)]) (va_Qi (fun (r : Int32) (u : (Nat → Bun) × (Nat → Lon)) => u.2 = N ∧ post r u.1) (wB g (wC g q) (va_A ((wC g q) (C, N)) sz)) (va_A ((wC g q) (C, N)) sz)) 0 0 (va_A ((wC g q) (C, N)) sz) := by
  refine mstart (Qf := fun A => va_Qi (fun (r : Int32) (u : (Nat → Bun) × (Nat → Lon)) => u.2 = N ∧ post r u.1) (wB g (wC g q) A) A) (by decide) rfl (Nat.le_of_ble_eq_true rfl) ?_
  intro p e s m args below meth c A Q H locs ls hC hr hlocks hname hQ hA hK hE hw hl
  have hC : CallFix p m c cX5_undo 1 s args wsX5_undo RX5 := hC
  obtain ⟨hx, hb, -, hown, hts⟩ := id hC
  have hl : lv_has ls 1 [(0, .ref (q 0 0))] := hl
  rw [wX5_undo] at h
  have hinX1 : ∀ w ∈ wsX10, w ∈ wsX5_undo := fun w hw9 => List.mem_cons_of_mem _ (List.mem_append_right _ hw9)
  have hinX5 : ∀ w ∈ wsX50, w ∈ wsX5_undo := fun w hw9 => List.mem_cons_of_mem _ (List.mem_append_left _ (List.mem_append_right _ hw9))
  refine lv_aload_n hx hb dX5_undo_0 rfl (lv_at hl 0 rfl) ?_
  refine O5_g3 hC hinX5 hK (hw.sub sC1O) (List.mem_of_getElem? (i := 1) rfl) dX5_undo_1 ?_
  refine lv_if_ne (tgt := 13) hx hb dX5_undo_4 (by decide) (fun c10 => ?_) (fun c10 => ?_)
  · replace h := h.2 c10
    refine lv_aload_n hx hb dX5_undo_13 rfl (lv_at hl 0 rfl) ?_
    refine O5_g0 hC hinX5 hK (hw.sub sC1O) (List.mem_of_getElem? (i := 2) rfl) dX5_undo_14 ?_
    refine lv_aload_n hx hb dX5_undo_17 rfl (lv_at hl 0 rfl) ?_
    refine O5_g1 hC hinX5 hK (hw.sub sC1O) (List.mem_of_getElem? (i := 3) rfl) dX5_undo_18 ?_
    refine mcallv (w1 := (fun u9 : Bun × Bun => wC g q (va_up (va_up C 1 u9.1) 2 u9.2, N))) (va_runVN (C := RX1) (As := [.ref (q 2 0)]) (rest := []) hC (kX1_takeFrom l g aK aV (q 1) (q 2) H.size (C 1) (C 2)  _ h) ⟨va_cnB 1 hts gX5_undo_X1_takeFrom_n217 rfl rfl rfl hE.nMX5_217 (hts (.initialized RX1) (List.mem_of_getElem? (i := 12) rfl)) (by decide +kernel) ⟨Nat.le_of_ble_eq_true rfl, Nat.le_of_ble_eq_true rfl⟩, (hts (.instanceMethod yX1_takeFrom) (List.mem_of_getElem? (i := 11) rfl)), (hts (.selects RX1 yX1_takeFrom yX1_takeFrom) (List.mem_of_getElem? (i := 13) rfl))⟩ (mpreV (E5_ok aK aV) hK hE hA hw (sC1PP isP1 isP2 (by decide)) 0 rfl rfl) rfl rfl hl.1 rfl (lv_room (Nat.le_of_ble_eq_true rfl)) dX5_undo_21 ⟨Nat.zero_le _, Nat.zero_le _⟩) hA hw (sC1PP isP1 isP2 (by decide)) (fun u9 => sCPP isP1 isP2 (by decide) u9) (fun u2 H locs h hw => ?_)
    obtain ⟨S4, S5⟩ := u2
    obtain ⟨C3, eC3⟩ : ∃ z, z = va_up (va_up C 1 S4) 2 S5 := ⟨_, rfl⟩
    replace h := h C3 eC3
    replace hw : Wd g.1 A s.heap ((wC g q) (C3, N)) H locs := by rw [eC3]; exact hw
    refine lv_aload_n hx hb dX5_undo_24 rfl (lv_at hl 0 rfl) ?_
    refine O5_g0 hC hinX5 hK (hw.sub sC1O) (List.mem_of_getElem? (i := 2) rfl) dX5_undo_25 ?_
    refine P5_pg0 hC hinX1 hK (hw.sub (sC1P isP1)) hE.nFX5_61 dX5_undo_28 ?_
    rw [hQ]
    exact mreti (w := (wC g q)) (u := (C3, N)) hC hr hlocks hK hw ⟨rfl, h⟩ dX5_undo_31
  · replace h := h.1 c10
    refine lv_aload_n hx hb dX5_undo_7 rfl (lv_at hl 0 rfl) ?_
    refine lv_iconst (v := (3 : Int32)) hx hb dX5_undo_8 (by decide) ?_
    refine mcalli (w1 := (wC g q)) (va_runV (As := [.int (3 : Int32)]) (rest := []) hC (kX5_finding l g aK aV q H.size C N (3 : Int32) _ h) (cwV 1 hts gX5_undo_X5_finding rfl rfl rfl (by decide +kernel) ⟨Nat.le_of_ble_eq_true rfl, Nat.le_of_ble_eq_true rfl⟩) (mpreV (E5_ok aK aV) hK hE hA hw (Sub1.refl _) 0 rfl rfl) rfl rfl hl.1 rfl (lv_room (Nat.le_of_ble_eq_true rfl)) dX5_undo_9 ⟨Nat.zero_le _, Nat.zero_le _⟩) hA hw (Sub1.refl _) (fun u9 => Sub.whole (wC_map u9.1 u9.2)) (fun r6 u7 H locs h hw => ?_)
    obtain ⟨C8, N9⟩ := u7
    obtain ⟨hu, h⟩ := h
    replace hu : N = N9 := hu.symm
    subst hu
    rw [hQ]
    exact mreti (w := (wC g q)) (u := (C8, N)) hC hr hlocks hK hw ⟨rfl, h⟩ dX5_undo_12
def wX5_tear (C : Nat → Bun) (N : Nat → Lon)  (post : Int32 → (Nat → Bun) → Prop) : Prop :=
  wjoin (σ := Int32) (fun y1 => ∀ C5 : Nat → Bun, C5 = va_up C 0 (up (C 0) 0 3 (0 : Int32)) → post y1 C5) (fun J2 => (((C 0 0 3) = 0 → J2 (0 : Int32)) ∧ (¬ ((C 0 0 3) = 0) → J2 (1 : Int32))))
set_option maxRecDepth 100000 in
set_option maxHeartbeats 4000000 in
theorem kX5_tear (l : Launch) (g : Gl) (aK : Nat → Nat) (aV : Nat → Nat) (q : Nat → Nat → Nat) (sz : Nat) (C : Nat → Bun) (N : Nat → Lon)  (post : Int32 → (Nat → Bun) → Prop) (h : wX5_tear C N  post) : Met l yX5_tear wsX5_tear (rmm 0 0) (wPc g (E5 aK aV) ((wC g q) (C, N)) sz [.ref (q 0 0)]) (va_Qi (fun (r : Int32) (u : (Nat → Bun) × (Nat → Lon)) => u.2 = N ∧ post r u.1) (wB g (wC g q) (va_A ((wC g q) (C, N)) sz)) (va_A ((wC g q) (C, N)) sz)) 0 0 (va_A ((wC g q) (C, N)) sz) := by
  refine mstart (Qf := fun A => va_Qi (fun (r : Int32) (u : (Nat → Bun) × (Nat → Lon)) => u.2 = N ∧ post r u.1) (wB g (wC g q) A) A) (by decide) rfl (Nat.le_of_ble_eq_true rfl) ?_
  intro p e s m args below meth c A Q H locs ls hC hr hlocks hname hQ hA hK hE hw hl
  have hC : CallFix p m c cX5_tear 2 s args wsX5_tear RX5 := hC
  obtain ⟨hx, hb, -, hown, hts⟩ := id hC
  have hl : lv_has ls 2 [(0, .ref (q 0 0))] := hl
  rw [wX5_tear] at h
  have hinX5 : ∀ w ∈ wsX50, w ∈ wsX5_tear := fun w hw9 => List.mem_cons_of_mem _ (List.mem_append_right _ hw9)
  refine lv_aload_n hx hb dX5_tear_0 rfl (lv_at hl 0 rfl) ?_
  refine O5_g3 hC hinX5 hK (hw.sub sC1O) (List.mem_of_getElem? (i := 1) rfl) dX5_tear_1 ?_
  obtain ⟨J2, hJ3, h⟩ := h
  have join4 : ∀ (y1 : Int32) (H : Heap) (locs : List Loc) (ls : Array Slot), J2 y1 → Wd g.1 A s.heap ((wC g q) (C, N)) H locs → lv_has ls 2 [(0, .ref (q 0 0))] → W p l e (rmm 0 0) s m args below meth c H locs 0 0 Q (F0 m 12 ls [.int y1]) := by
    intro y1 H locs ls h hw hl
    replace h := hJ3 y1 h
    refine lv_istore_n (lv' := [(1, .int y1), (0, .ref (q 0 0))]) hx hb dX5_tear_12 rfl hl (by decide) rfl (fun ls hl => ?_)
    refine lv_aload_n hx hb dX5_tear_13 rfl (lv_at hl 1 rfl) ?_
    refine lv_iconst (v := (0 : Int32)) hx hb dX5_tear_14 (by decide) ?_
    refine C_p0_3 hC hinX5 hK hw (List.mem_of_getElem? (i := 1) rfl) (Or.inl rfl) dX5_tear_15 (fun C5 H locs eC5 hw => ?_)
    replace h := h C5 eC5
    refine lv_iload_n hx hb dX5_tear_18 rfl (lv_at hl 0 rfl) ?_
    rw [hQ]
    exact mreti (w := (wC g q)) (u := (C5, N)) hC hr hlocks hK hw ⟨rfl, h⟩ dX5_tear_19
  refine lv_if_eq (tgt := 11) hx hb dX5_tear_4 (by decide) (fun c6 => ?_) (fun c6 => ?_)
  · replace h := h.1 c6
    refine lv_iconst (v := (0 : Int32)) hx hb dX5_tear_11 (by decide) ?_
    exact join4 (0 : Int32) _ _ _ h hw (lv_sub hl [0] rfl)
  · replace h := h.2 c6
    refine lv_iconst (v := (1 : Int32)) hx hb dX5_tear_7 (by decide) ?_
    refine lv_goto (tgt := 12) hx hb dX5_tear_8 (by decide) ?_
    exact join4 (1 : Int32) _ _ _ h hw (lv_sub hl [0] rfl)
def wX5_count (C : Nat → Bun) (N : Nat → Lon) (a1 : Int32) (post : Int32 → (Nat → Bun) → Prop) : Prop :=
  ∀ x1 : Int32, x1 = a1 → ((x1 = (0 : Int32) → post (C 1 0 0) C) ∧ (x1 = (1 : Int32) → post (C 1 0 1) C) ∧ (x1 = (2 : Int32) → wX1_allEarth (C 1)  (fun r3 => post r3 C)) ∧ (x1 = (3 : Int32) → wX1_allJoins (C 1)  (fun r5 => post r5 C)) ∧ (x1 = (4 : Int32) → post (C 4 0 1) C) ∧ ((x1.toInt < 0 ∨ 4 < x1.toInt) → wX5_finding C N (0 : Int32) (fun r7 C9 => post r7 C9)))
set_option maxRecDepth 100000 in
set_option maxHeartbeats 4000000 in
theorem kX5_count (l : Launch) (g : Gl) (aK : Nat → Nat) (aV : Nat → Nat) (q : Nat → Nat → Nat) (sz : Nat) (C : Nat → Bun) (N : Nat → Lon) (a1 : Int32) (post : Int32 → (Nat → Bun) → Prop) (h : wX5_count C N a1 post) : Met l yX5_count wsX5_count (rmm 3 65) (wPc g (E5 aK aV) ((wC g q) (C, N)) sz [.ref (q 0 0), .int a1]) (va_Qi (fun (r : Int32) (u : (Nat → Bun) × (Nat → Lon)) => u.2 = N ∧ post r u.1) (wB g (wC g q) (va_A ((wC g q) (C, N)) sz)) (va_A ((wC g q) (C, N)) sz)) 0 0 (va_A ((wC g q) (C, N)) sz) := by
  refine mstart (Qf := fun A => va_Qi (fun (r : Int32) (u : (Nat → Bun) × (Nat → Lon)) => u.2 = N ∧ post r u.1) (wB g (wC g q) A) A) (by decide) rfl (Nat.le_of_ble_eq_true rfl) ?_
  intro p e s m args below meth c A Q H locs ls hC hr hlocks hname hQ hA hK hE hw hl
  have hC : CallFix p m c cX5_count 2 s args wsX5_count RX5 := hC
  obtain ⟨hx, hb, -, hown, hts⟩ := id hC
  have hl : lv_has ls 2 [(0, .ref (q 0 0)), (1, .int a1)] := hl
  rw [wX5_count] at h
  have hinX1 : ∀ w ∈ wsX10, w ∈ wsX5_count := fun w hw9 => List.mem_cons_of_mem _ (List.mem_append_left _ (List.mem_append_right _ hw9))
  have hinX4 : ∀ w ∈ wsX40, w ∈ wsX5_count := fun w hw9 => List.mem_cons_of_mem _ (List.mem_append_right _ hw9)
  have hinX5 : ∀ w ∈ wsX50, w ∈ wsX5_count := fun w hw9 => List.mem_cons_of_mem _ (List.mem_append_left _ (List.mem_append_left _ (List.mem_append_right _ hw9)))
  refine lv_iload_n hx hb dX5_count_0 rfl (lv_at hl 1 rfl) ?_
  refine lv_topi (fun x1 ex1 => ?_)
  replace h := h x1 ex1
  rcases sw0_4 x1 with c2 | c2 | c2 | c2 | c2 | c2
  · replace h := h.1 c2
    rw [c2]
    refine lv_tableIn (tgt := 36) (off := 35) hx hb dX5_count_1 (by decide) (by decide) rfl (by decide) ?_
    refine lv_aload_n hx hb dX5_count_36 rfl (lv_at hl 0 rfl) ?_
    refine O5_g0 hC hinX5 hK (hw.sub sC1O) (List.mem_of_getElem? (i := 1) rfl) dX5_count_37 ?_
    refine P5_pg0 hC hinX1 hK (hw.sub (sC1P isP1)) hE.nFX5_61 dX5_count_40 ?_
    rw [hQ]
    exact mreti (w := (wC g q)) (u := (C, N)) hC hr hlocks hK hw ⟨rfl, h⟩ dX5_count_43
  · replace h := h.2.1 c2
    rw [c2]
    refine lv_tableIn (tgt := 44) (off := 43) hx hb dX5_count_1 (by decide) (by decide) rfl (by decide) ?_
    refine lv_aload_n hx hb dX5_count_44 rfl (lv_at hl 0 rfl) ?_
    refine O5_g0 hC hinX5 hK (hw.sub sC1O) (List.mem_of_getElem? (i := 1) rfl) dX5_count_45 ?_
    refine P5_pg1 hC hinX1 hK (hw.sub (sC1P isP1)) hE.nFX5_110 dX5_count_48 ?_
    rw [hQ]
    exact mreti (w := (wC g q)) (u := (C, N)) hC hr hlocks hK hw ⟨rfl, h⟩ dX5_count_51
  · replace h := h.2.2.1 c2
    rw [c2]
    refine lv_tableIn (tgt := 52) (off := 51) hx hb dX5_count_1 (by decide) (by decide) rfl (by decide) ?_
    refine lv_aload_n hx hb dX5_count_52 rfl (lv_at hl 0 rfl) ?_
    refine O5_g0 hC hinX5 hK (hw.sub sC1O) (List.mem_of_getElem? (i := 1) rfl) dX5_count_53 ?_
    refine mcalli (w1 := (fun u9 : Bun => wC g q (va_up C 1 u9, N))) (va_runVN (C := RX1) (As := []) (rest := []) hC (kX1_allEarth l g aK aV (q 1) H.size (C 1)  _ h) ⟨va_cnB 0 hts gX5_count_X1_allEarth_n283 rfl rfl rfl hE.nMX5_283 (hts (.initialized RX1) (List.mem_of_getElem? (i := 4) rfl)) (by decide +kernel) ⟨Nat.le_of_ble_eq_true rfl, Nat.le_of_ble_eq_true rfl⟩, (hts (.instanceMethod yX1_allEarth) (List.mem_of_getElem? (i := 3) rfl)), (hts (.selects RX1 yX1_allEarth yX1_allEarth) (List.mem_of_getElem? (i := 5) rfl))⟩ (mpreV (E5_ok aK aV) hK hE hA hw (sC1P isP1) 0 rfl rfl) rfl rfl hl.1 rfl (lv_room (Nat.le_of_ble_eq_true rfl)) dX5_count_56 ⟨Nat.zero_le _, Nat.zero_le _⟩) hA hw (sC1P isP1) (fun u9 => sCP isP1 u9) (fun r3 u4 H locs h hw => ?_)
    obtain ⟨hu, h⟩ := h
    replace hu := hu.symm
    subst hu
    replace hw : Wd g.1 A s.heap ((wC g q) (C, N)) H locs := by first | exact hw | (simpa only [up_self] using hw)
    rw [hQ]
    exact mreti (w := (wC g q)) (u := (C, N)) hC hr hlocks hK hw ⟨rfl, h⟩ dX5_count_59
  · replace h := h.2.2.2.1 c2
    rw [c2]
    refine lv_tableIn (tgt := 60) (off := 59) hx hb dX5_count_1 (by decide) (by decide) rfl (by decide) ?_
    refine lv_aload_n hx hb dX5_count_60 rfl (lv_at hl 0 rfl) ?_
    refine O5_g0 hC hinX5 hK (hw.sub sC1O) (List.mem_of_getElem? (i := 1) rfl) dX5_count_61 ?_
    refine mcalli (w1 := (fun u9 : Bun => wC g q (va_up C 1 u9, N))) (va_runVN (C := RX1) (As := []) (rest := []) hC (kX1_allJoins l g aK aV (q 1) H.size (C 1)  _ h) ⟨va_cnB 0 hts gX5_count_X1_allJoins_n286 rfl rfl rfl hE.nMX5_286 (hts (.initialized RX1) (List.mem_of_getElem? (i := 4) rfl)) (by decide +kernel) ⟨Nat.le_of_ble_eq_true rfl, Nat.le_of_ble_eq_true rfl⟩, (hts (.instanceMethod yX1_allJoins) (List.mem_of_getElem? (i := 25) rfl)), (hts (.selects RX1 yX1_allJoins yX1_allJoins) (List.mem_of_getElem? (i := 26) rfl))⟩ (mpreV (E5_ok aK aV) hK hE hA hw (sC1P isP1) 0 rfl rfl) rfl rfl hl.1 rfl (lv_room (Nat.le_of_ble_eq_true rfl)) dX5_count_64 ⟨Nat.zero_le _, Nat.zero_le _⟩) hA hw (sC1P isP1) (fun u9 => sCP isP1 u9) (fun r5 u6 H locs h hw => ?_)
    obtain ⟨hu, h⟩ := h
    replace hu := hu.symm
    subst hu
    replace hw : Wd g.1 A s.heap ((wC g q) (C, N)) H locs := by first | exact hw | (simpa only [up_self] using hw)
    rw [hQ]
    exact mreti (w := (wC g q)) (u := (C, N)) hC hr hlocks hK hw ⟨rfl, h⟩ dX5_count_67
  · replace h := h.2.2.2.2.1 c2
    rw [c2]
    refine lv_tableIn (tgt := 68) (off := 67) hx hb dX5_count_1 (by decide) (by decide) rfl (by decide) ?_
    refine lv_aload_n hx hb dX5_count_68 rfl (lv_at hl 0 rfl) ?_
    refine O5_g4 hC hinX5 hK (hw.sub sC1O) (List.mem_of_getElem? (i := 2) rfl) dX5_count_69 ?_
    refine T5_tg1 hC hinX4 hK (hw.sub sC1T) hE.nFX5_211 dX5_count_72 ?_
    rw [hQ]
    exact mreti (w := (wC g q)) (u := (C, N)) hC hr hlocks hK hw ⟨rfl, h⟩ dX5_count_75
  · replace h := h.2.2.2.2.2 c2
    refine lv_tableOut (tgt := 76) hx hb dX5_count_1 c2 (by decide) ?_
    refine lv_aload_n hx hb dX5_count_76 rfl (lv_at hl 0 rfl) ?_
    refine lv_iconst (v := (0 : Int32)) hx hb dX5_count_77 (by decide) ?_
    refine mcalli (w1 := (wC g q)) (va_runV (As := [.int (0 : Int32)]) (rest := []) hC (kX5_finding l g aK aV q H.size C N (0 : Int32) _ h) (cwV 1 hts gX5_count_X5_finding rfl rfl rfl (by decide +kernel) ⟨Nat.le_of_ble_eq_true rfl, Nat.le_of_ble_eq_true rfl⟩) (mpreV (E5_ok aK aV) hK hE hA hw (Sub1.refl _) 0 rfl rfl) rfl rfl hl.1 rfl (lv_room (Nat.le_of_ble_eq_true rfl)) dX5_count_78 ⟨Nat.zero_le _, Nat.zero_le _⟩) hA hw (Sub1.refl _) (fun u9 => Sub.whole (wC_map u9.1 u9.2)) (fun r7 u8 H locs h hw => ?_)
    obtain ⟨C9, N10⟩ := u8
    obtain ⟨hu, h⟩ := h
    replace hu : N = N10 := hu.symm
    subst hu
    rw [hQ]
    exact mreti (w := (wC g q)) (u := (C9, N)) hC hr hlocks hK hw ⟨rfl, h⟩ dX5_count_81
def wX5_status (C : Nat → Bun) (N : Nat → Lon) (a1 : Int32) (post : Int32 → (Nat → Bun) → Prop) : Prop :=
  wjoin (σ := Unit) (fun _ => wX5_finding C N (0 : Int32) (fun r4 C6 => post r4 C6)) (fun J1 => ((a1 < (-1 : Int32) → J1 ()) ∧ (¬ (a1 < (-1 : Int32)) → ((a1 < (7 : Int32) → ((a1 < 0 → wloop (σ := Int32 × Int32) (fun K10 z => match z with | (x8, x9) => (((7 : Int32) ≤ x9 → post x8 C) ∧ (¬ ((7 : Int32) ≤ x9) → vp_in x9 7 ∧ ∀ x16 : Int32, x16 = x8 + (C 0 7 x9.toNatClampNeg) → ∀ x17 : Int32, x17 = x9 + (1 : Int32) → K10 (x16, x17)))) ((0 : Int32), (0 : Int32))) ∧ (¬ (a1 < 0) → vp_in a1 7 ∧ post (C 0 7 a1.toNatClampNeg) C))) ∧ (¬ (a1 < (7 : Int32)) → J1 ())))))
set_option maxRecDepth 100000 in
set_option maxHeartbeats 4000000 in
theorem kX5_status (l : Launch) (g : Gl) (aK : Nat → Nat) (aV : Nat → Nat) (q : Nat → Nat → Nat) (sz : Nat) (C : Nat → Bun) (N : Nat → Lon) (a1 : Int32) (post : Int32 → (Nat → Bun) → Prop) (h : wX5_status C N a1 post) : Met l yX5_status wsX5_status (rmm 1 21) (wPc g (E5 aK aV) ((wC g q) (C, N)) sz [.ref (q 0 0), .int a1]) (va_Qi (fun (r : Int32) (u : (Nat → Bun) × (Nat → Lon)) => u.2 = N ∧ post r u.1) (wB g (wC g q) (va_A ((wC g q) (C, N)) sz)) (va_A ((wC g q) (C, N)) sz)) 0 0 (va_A ((wC g q) (C, N)) sz) := by
  refine mstart (Qf := fun A => va_Qi (fun (r : Int32) (u : (Nat → Bun) × (Nat → Lon)) => u.2 = N ∧ post r u.1) (wB g (wC g q) A) A) (by decide) rfl (Nat.le_of_ble_eq_true rfl) ?_
  intro p e s m args below meth c A Q H locs ls hC hr hlocks hname hQ hA hK hE hw hl
  have hC : CallFix p m c cX5_status 4 s args wsX5_status RX5 := hC
  obtain ⟨hx, hb, -, hown, hts⟩ := id hC
  have hl : lv_has ls 4 [(0, .ref (q 0 0)), (1, .int a1)] := hl
  rw [wX5_status] at h
  have hinX5 : ∀ w ∈ wsX50, w ∈ wsX5_status := fun w hw9 => List.mem_cons_of_mem _ (List.mem_append_right _ hw9)
  refine lv_iload_n hx hb dX5_status_0 rfl (lv_at hl 1 rfl) ?_
  refine lv_iconst (v := (-1 : Int32)) hx hb dX5_status_1 (by decide) ?_
  obtain ⟨J1, hJ2, h⟩ := h
  have join3 : ∀  (H : Heap) (locs : List Loc) (ls : Array Slot), J1 () → Wd g.1 A s.heap ((wC g q) (C, N)) H locs → lv_has ls 4 [(0, .ref (q 0 0))] → W p l e (rmm 1 21) s m args below meth c H locs 0 0 Q (F0 m 11 ls []) := by
    intro  H locs ls h hw hl
    replace h := hJ2 () h
    refine lv_aload_n hx hb dX5_status_11 rfl (lv_at hl 0 rfl) ?_
    refine lv_iconst (v := (0 : Int32)) hx hb dX5_status_12 (by decide) ?_
    refine mcalli (w1 := (wC g q)) (va_runV (As := [.int (0 : Int32)]) (rest := []) hC (kX5_finding l g aK aV q H.size C N (0 : Int32) _ h) (cwV 1 hts gX5_status_X5_finding rfl rfl rfl (by decide +kernel) ⟨Nat.le_of_ble_eq_true rfl, Nat.le_of_ble_eq_true rfl⟩) (mpreV (E5_ok aK aV) hK hE hA hw (Sub1.refl _) 0 rfl rfl) rfl rfl hl.1 rfl (lv_room (Nat.le_of_ble_eq_true rfl)) dX5_status_13 ⟨Nat.zero_le _, Nat.zero_le _⟩) hA hw (Sub1.refl _) (fun u9 => Sub.whole (wC_map u9.1 u9.2)) (fun r4 u5 H locs h hw => ?_)
    obtain ⟨C6, N7⟩ := u5
    obtain ⟨hu, h⟩ := h
    replace hu : N = N7 := hu.symm
    subst hu
    rw [hQ]
    exact mreti (w := (wC g q)) (u := (C6, N)) hC hr hlocks hK hw ⟨rfl, h⟩ dX5_status_16
  refine lv_icmp_lt (tgt := 11) hx hb dX5_status_2 (by decide) (fun c22 => ?_) (fun c22 => ?_)
  · replace h := h.1 c22
    exact join3  _ _ _ h hw (lv_sub hl [0] rfl)
  · replace h := h.2 c22
    refine lv_iload_n hx hb dX5_status_5 rfl (lv_at hl 1 rfl) ?_
    refine lv_bipush (v := (7 : Int32)) hx hb dX5_status_6 (by decide) ?_
    refine lv_icmp_lt (tgt := 17) hx hb dX5_status_8 (by decide) (fun c21 => ?_) (fun c21 => ?_)
    · replace h := h.1 c21
      refine lv_iload_n hx hb dX5_status_17 rfl (lv_at hl 1 rfl) ?_
      refine lv_if_lt (tgt := 28) hx hb dX5_status_18 (by decide) (fun c20 => ?_) (fun c20 => ?_)
      · replace h := h.1 c20
        refine lv_iconst (v := (0 : Int32)) hx hb dX5_status_28 (by decide) ?_
        refine lv_istore_n (lv' := [(2, .int (0 : Int32)), (0, .ref (q 0 0)), (1, .int a1)]) hx hb dX5_status_29 rfl hl (by decide) rfl (fun ls hl => ?_)
        refine lv_iconst (v := (0 : Int32)) hx hb dX5_status_30 (by decide) ?_
        refine lv_istore_n (lv' := [(3, .int (0 : Int32)), (2, .int (0 : Int32)), (0, .ref (q 0 0)), (1, .int a1)]) hx hb dX5_status_31 rfl hl (by decide) rfl (fun ls hl => ?_)
        refine h (fun z => match z with | (x8, x9) => ∀ (H : Heap) (locs : List Loc) (ls : Array Slot), Wd g.1 A s.heap ((wC g q) (C, N)) H locs → lv_has ls 4 [(0, .ref (q 0 0)), (2, .int x8), (3, .int x9)] → W p l e (rmm 1 21) s m args below meth c H locs 0 0 Q (F0 m 32 ls [])) ?_ _ _ _ hw (lv_sub hl [2, 1, 0] rfl)
        clear h hw hl
        rintro ⟨x8, x9⟩ h H locs ls hw hl
        refine lv_iload_n hx hb dX5_status_32 rfl (lv_at hl 2 rfl) ?_
        refine lv_bipush (v := (7 : Int32)) hx hb dX5_status_33 (by decide) ?_
        refine lv_icmp_ge (tgt := 53) hx hb dX5_status_35 (by decide) (fun c19 => ?_) (fun c19 => ?_)
        · replace h := h.1 c19
          refine lv_iload_n hx hb dX5_status_53 rfl (lv_at hl 1 rfl) ?_
          rw [hQ]
          exact mreti (w := (wC g q)) (u := (C, N)) hC hr hlocks hK hw ⟨rfl, h⟩ dX5_status_54
        · replace h := h.2 c19
          refine lv_iload_n hx hb dX5_status_38 rfl (lv_at hl 1 rfl) ?_
          refine lv_aload_n hx hb dX5_status_39 rfl (lv_at hl 0 rfl) ?_
          refine O5_g6 hC hinX5 hK (hw.sub sC1O) (List.mem_of_getElem? (i := 1) rfl) dX5_status_40 ?_
          refine lv_iload_n hx hb dX5_status_43 rfl (lv_at hl 2 rfl) ?_
          obtain ⟨hi, h⟩ := h
          refine O5_l6 hC hK (hw.sub sC1O) hi dX5_status_44 ?_
          refine lv_iadd hx hb dX5_status_45 ?_
          refine lv_topi (fun x16 ex16 => ?_)
          replace h := h x16 ex16
          refine lv_istore_n (lv' := [(2, .int x16), (0, .ref (q 0 0)), (3, .int x9)]) hx hb dX5_status_46 rfl hl (by decide) rfl (fun ls hl => ?_)
          obtain ⟨x17, ex17⟩ : ∃ y : Int32, y = x9 + (1 : Int32) := ⟨_, rfl⟩
          refine lv_iinc (v := x17) (lv' := [(3, .int x17), (2, .int x16), (0, .ref (q 0 0))]) hx hb dX5_status_47 hl (k := 2) rfl (by rw [ex17]; rfl) (by decide) rfl (fun ls hl => ?_)
          replace h := h x17 ex17
          refine lv_goto (tgt := 32) hx hb dX5_status_50 (by decide) ?_
          exact h _ _ _ hw (lv_sub hl [2, 1, 0] rfl)
      · replace h := h.2 c20
        refine lv_aload_n hx hb dX5_status_21 rfl (lv_at hl 0 rfl) ?_
        refine O5_g6 hC hinX5 hK (hw.sub sC1O) (List.mem_of_getElem? (i := 1) rfl) dX5_status_22 ?_
        refine lv_iload_n hx hb dX5_status_25 rfl (lv_at hl 1 rfl) ?_
        obtain ⟨hi, h⟩ := h
        refine O5_l6 hC hK (hw.sub sC1O) hi dX5_status_26 ?_
        rw [hQ]
        exact mreti (w := (wC g q)) (u := (C, N)) hC hr hlocks hK hw ⟨rfl, h⟩ dX5_status_27
    · replace h := h.2 c21
      exact join3  _ _ _ h hw (lv_sub hl [0] rfl)
