def wX5_isOfKind  (a1 : Int32) (a2 : Int32) (post : Int32 → Prop) : Prop :=
  vp_in a1 6 ∧ (((((tbKinds a1.toNatClampNeg) >>> (a2 &&& 31)) &&& (1 : Int32)) = 0 → post (0 : Int32)) ∧ (¬ ((((tbKinds a1.toNatClampNeg) >>> (a2 &&& 31)) &&& (1 : Int32)) = 0) → post (1 : Int32)))
set_option maxRecDepth 100000 in
set_option maxHeartbeats 4000000 in
theorem kX5_isOfKind (l : Launch) (g : Gl) (aK : Nat → Nat) (aV : Nat → Nat)  (sz : Nat)  (a1 : Int32) (a2 : Int32) (post : Int32 → Prop) (h : wX5_isOfKind  a1 a2 post) : Met l yX5_isOfKind wsX5_isOfKind (rmm 0 0) (wPc g (E5 aK aV) (([] : va_W)) sz [.int a1, .int a2]) (va_Qi (fun (r : Int32) (u : Unit) => u = () ∧ post r) (wB g (fun _ : Unit => ([] : va_W)) (va_A (([] : va_W)) sz)) (va_A (([] : va_W)) sz)) 0 0 (va_A (([] : va_W)) sz) := by
  refine mstart (Qf := fun A => va_Qi (fun (r : Int32) (u : Unit) => u = () ∧ post r) (wB g (fun _ : Unit => ([] : va_W)) A) A) (by decide) rfl (Nat.le_of_ble_eq_true rfl) ?_
  intro p e s m args below meth c A Q H locs ls hC hr hlocks hname hQ hA hK hE hw hl
  have hC : CallFix p m c cX5_isOfKind 2 s args wsX5_isOfKind RX5 := hC
  obtain ⟨hx, hb, -, hown, hts⟩ := id hC
  have hl : lv_has ls 2 [(0, .int a1), (1, .int a2)] := hl
  rw [wX5_isOfKind] at h
  obtain ⟨t1, hZt1, hTt1⟩ := hE.tbKinds
  refine va_gets hx hb hZt1 hw.2.2 hown (hts (.fieldLink RX5 317 "OneFurrow" "KINDS_ABOVE" "[I") (List.mem_of_getElem? (i := 1) rfl)) (fun _ h9 => h9) dX5_isOfKind_0 ?_
  refine lv_iload_n hx hb dX5_isOfKind_3 rfl (lv_at hl 0 rfl) ?_
  obtain ⟨hi, h⟩ := h
  refine va_ti hx hb hTt1 hw.2.2 hi rfl dX5_isOfKind_4 ?_
  refine lv_iload_n hx hb dX5_isOfKind_5 rfl (lv_at hl 1 rfl) ?_
  refine lv_ishr hx hb dX5_isOfKind_6 ?_
  refine lv_iconst (v := (1 : Int32)) hx hb dX5_isOfKind_7 (by decide) ?_
  refine lv_iand hx hb dX5_isOfKind_8 ?_
  refine lv_if_eq (tgt := 16) hx hb dX5_isOfKind_9 (by decide) (fun c2 => ?_) (fun c2 => ?_)
  · replace h := h.1 c2
    refine lv_iconst (v := (0 : Int32)) hx hb dX5_isOfKind_16 (by decide) ?_
    rw [hQ]
    exact mretz (w := (fun _ : Unit => ([] : va_W))) (u := ()) hC hr hlocks hK hw (Or.inl rfl) ⟨rfl, h⟩ dX5_isOfKind_17
  · replace h := h.2 c2
    refine lv_iconst (v := (1 : Int32)) hx hb dX5_isOfKind_12 (by decide) ?_
    refine lv_goto (tgt := 17) hx hb dX5_isOfKind_13 (by decide) ?_
    rw [hQ]
    exact mretz (w := (fun _ : Unit => ([] : va_W))) (u := ()) hC hr hlocks hK hw (Or.inr rfl) ⟨rfl, h⟩ dX5_isOfKind_17
def wX5_cellsBeside  (a1 : Int32) (post : Int32 → Prop) : Prop :=
  ∀ x1 : Int32, x1 = ((a1 &&& (61166 : Int32)) >>> ((1 : Int32) &&& 31)) ||| ((a1 &&& (30583 : Int32)) <<< ((1 : Int32) &&& 31)) → post (((x1 ||| (a1 >>> ((4 : Int32) &&& 31))) ||| (a1 <<< ((4 : Int32) &&& 31))) &&& (65535 : Int32))
set_option maxRecDepth 100000 in
set_option maxHeartbeats 4000000 in
theorem kX5_cellsBeside (l : Launch) (g : Gl) (aK : Nat → Nat) (aV : Nat → Nat)  (sz : Nat)  (a1 : Int32) (post : Int32 → Prop) (h : wX5_cellsBeside  a1 post) : Met l yX5_cellsBeside wsX5_cellsBeside (rmm 0 0) (wPc g (E5 aK aV) (([] : va_W)) sz [.int a1]) (va_Qi (fun (r : Int32) (u : Unit) => u = () ∧ post r) (wB g (fun _ : Unit => ([] : va_W)) (va_A (([] : va_W)) sz)) (va_A (([] : va_W)) sz)) 0 0 (va_A (([] : va_W)) sz) := by
  refine mstart (Qf := fun A => va_Qi (fun (r : Int32) (u : Unit) => u = () ∧ post r) (wB g (fun _ : Unit => ([] : va_W)) A) A) (by decide) rfl (Nat.le_of_ble_eq_true rfl) ?_
  intro p e s m args below meth c A Q H locs ls hC hr hlocks hname hQ hA hK hE hw hl
  have hC : CallFix p m c cX5_cellsBeside 2 s args wsX5_cellsBeside RX5 := hC
  obtain ⟨hx, hb, -, hown, hts⟩ := id hC
  have hl : lv_has ls 2 [(0, .int a1)] := hl
  rw [wX5_cellsBeside] at h
  refine lv_iload_n hx hb dX5_cellsBeside_0 rfl (lv_at hl 0 rfl) ?_
  refine lv_ldcw (v := (61166 : Int32)) hx hb hown (hts (.constant RX5 306 (61166)) (List.mem_of_getElem? (i := 1) rfl)) dX5_cellsBeside_1 ?_
  refine lv_iand hx hb dX5_cellsBeside_4 ?_
  refine lv_iconst (v := (1 : Int32)) hx hb dX5_cellsBeside_5 (by decide) ?_
  refine lv_ishr hx hb dX5_cellsBeside_6 ?_
  refine lv_iload_n hx hb dX5_cellsBeside_7 rfl (lv_at hl 0 rfl) ?_
  refine lv_sipush (v := (30583 : Int32)) hx hb dX5_cellsBeside_8 (by decide) ?_
  refine lv_iand hx hb dX5_cellsBeside_11 ?_
  refine lv_iconst (v := (1 : Int32)) hx hb dX5_cellsBeside_12 (by decide) ?_
  refine lv_ishl hx hb dX5_cellsBeside_13 ?_
  refine lv_ior hx hb dX5_cellsBeside_14 ?_
  refine lv_topi (fun x1 ex1 => ?_)
  replace h := h x1 ex1
  refine lv_istore_n (lv' := [(1, .int x1), (0, .int a1)]) hx hb dX5_cellsBeside_15 rfl hl (by decide) rfl (fun ls hl => ?_)
  refine lv_iload_n hx hb dX5_cellsBeside_16 rfl (lv_at hl 0 rfl) ?_
  refine lv_iload_n hx hb dX5_cellsBeside_17 rfl (lv_at hl 1 rfl) ?_
  refine lv_iconst (v := (4 : Int32)) hx hb dX5_cellsBeside_18 (by decide) ?_
  refine lv_ishr hx hb dX5_cellsBeside_19 ?_
  refine lv_ior hx hb dX5_cellsBeside_20 ?_
  refine lv_iload_n hx hb dX5_cellsBeside_21 rfl (lv_at hl 1 rfl) ?_
  refine lv_iconst (v := (4 : Int32)) hx hb dX5_cellsBeside_22 (by decide) ?_
  refine lv_ishl hx hb dX5_cellsBeside_23 ?_
  refine lv_ior hx hb dX5_cellsBeside_24 ?_
  refine lv_ldcw (v := (65535 : Int32)) hx hb hown (hts (.constant RX5 290 (65535)) (List.mem_of_getElem? (i := 2) rfl)) dX5_cellsBeside_25 ?_
  refine lv_iand hx hb dX5_cellsBeside_28 ?_
  rw [hQ]
  exact mreti (w := (fun _ : Unit => ([] : va_W))) (u := ()) hC hr hlocks hK hw ⟨rfl, h⟩ dX5_cellsBeside_29
def wJ6_bitCount_0f7a4  (a1 : Int32) (post : Int32 → Prop) : Prop :=
  ∀ x1 : Int32, x1 = a1 - (((a1.toUInt32 >>> ((1 : Int32).toUInt32 &&& Int32.toUInt32 31)).toInt32) &&& (1431655765 : Int32)) → ∀ x2 : Int32, x2 = (x1 &&& (858993459 : Int32)) + (((x1.toUInt32 >>> ((2 : Int32).toUInt32 &&& Int32.toUInt32 31)).toInt32) &&& (858993459 : Int32)) → ∀ x3 : Int32, x3 = (x2 + ((x2.toUInt32 >>> ((4 : Int32).toUInt32 &&& Int32.toUInt32 31)).toInt32)) &&& (252645135 : Int32) → ∀ x4 : Int32, x4 = x3 + ((x3.toUInt32 >>> ((8 : Int32).toUInt32 &&& Int32.toUInt32 31)).toInt32) → ∀ x5 : Int32, x5 = x4 + ((x4.toUInt32 >>> ((16 : Int32).toUInt32 &&& Int32.toUInt32 31)).toInt32) → post (x5 &&& (63 : Int32))
set_option maxRecDepth 100000 in
set_option maxHeartbeats 4000000 in
theorem kJ6_bitCount_0f7a4 (l : Launch) (g : Gl) (aK : Nat → Nat) (aV : Nat → Nat)  (sz : Nat)  (a1 : Int32) (post : Int32 → Prop) (h : wJ6_bitCount_0f7a4  a1 post) : Met l yJ6_bitCount_0f7a4 wsJ6_bitCount_0f7a4 (rmm 0 0) (wPc g (E5 aK aV) (([] : va_W)) sz [.int a1]) (va_Qi (fun (r : Int32) (u : Unit) => u = () ∧ post r) (wB g (fun _ : Unit => ([] : va_W)) (va_A (([] : va_W)) sz)) (va_A (([] : va_W)) sz)) 0 0 (va_A (([] : va_W)) sz) := by
  refine mstart (Qf := fun A => va_Qi (fun (r : Int32) (u : Unit) => u = () ∧ post r) (wB g (fun _ : Unit => ([] : va_W)) A) A) (by decide) rfl (Nat.le_of_ble_eq_true rfl) ?_
  intro p e s m args below meth c A Q H locs ls hC hr hlocks hname hQ hA hK hE hw hl
  have hC : CallFix p m c cJ6_bitCount_0f7a4 1 s args wsJ6_bitCount_0f7a4 RJ6 := hC
  obtain ⟨hx, hb, -, hown, hts⟩ := id hC
  have hl : lv_has ls 1 [(0, .int a1)] := hl
  rw [wJ6_bitCount_0f7a4] at h
  refine lv_iload_n hx hb dJ6_bitCount_0f7a4_0 rfl (lv_at hl 0 rfl) ?_
  refine lv_iload_n hx hb dJ6_bitCount_0f7a4_1 rfl (lv_at hl 0 rfl) ?_
  refine lv_iconst (v := (1 : Int32)) hx hb dJ6_bitCount_0f7a4_2 (by decide) ?_
  refine lv_iushr (v := (a1.toUInt32 >>> ((1 : Int32).toUInt32 &&& Int32.toUInt32 31)).toInt32) hx hb dJ6_bitCount_0f7a4_3 rfl ?_
  refine lv_ldcw (v := (1431655765 : Int32)) hx hb hown (hts (.constant RJ6 265 (1431655765)) (List.mem_of_getElem? (i := 1) rfl)) dJ6_bitCount_0f7a4_4 ?_
  refine lv_iand hx hb dJ6_bitCount_0f7a4_7 ?_
  refine lv_isub hx hb dJ6_bitCount_0f7a4_8 ?_
  refine lv_topi (fun x1 ex1 => ?_)
  replace h := h x1 ex1
  refine lv_istore_n (lv' := [(0, .int x1)]) hx hb dJ6_bitCount_0f7a4_9 rfl hl (by decide) rfl (fun ls hl => ?_)
  refine lv_iload_n hx hb dJ6_bitCount_0f7a4_10 rfl (lv_at hl 0 rfl) ?_
  refine lv_ldcw (v := (858993459 : Int32)) hx hb hown (hts (.constant RJ6 266 (858993459)) (List.mem_of_getElem? (i := 2) rfl)) dJ6_bitCount_0f7a4_11 ?_
  refine lv_iand hx hb dJ6_bitCount_0f7a4_14 ?_
  refine lv_iload_n hx hb dJ6_bitCount_0f7a4_15 rfl (lv_at hl 0 rfl) ?_
  refine lv_iconst (v := (2 : Int32)) hx hb dJ6_bitCount_0f7a4_16 (by decide) ?_
  refine lv_iushr (v := (x1.toUInt32 >>> ((2 : Int32).toUInt32 &&& Int32.toUInt32 31)).toInt32) hx hb dJ6_bitCount_0f7a4_17 rfl ?_
  refine lv_ldcw (v := (858993459 : Int32)) hx hb hown (hts (.constant RJ6 266 (858993459)) (List.mem_of_getElem? (i := 2) rfl)) dJ6_bitCount_0f7a4_18 ?_
  refine lv_iand hx hb dJ6_bitCount_0f7a4_21 ?_
  refine lv_iadd hx hb dJ6_bitCount_0f7a4_22 ?_
  refine lv_topi (fun x2 ex2 => ?_)
  replace h := h x2 ex2
  refine lv_istore_n (lv' := [(0, .int x2)]) hx hb dJ6_bitCount_0f7a4_23 rfl hl (by decide) rfl (fun ls hl => ?_)
  refine lv_iload_n hx hb dJ6_bitCount_0f7a4_24 rfl (lv_at hl 0 rfl) ?_
  refine lv_iload_n hx hb dJ6_bitCount_0f7a4_25 rfl (lv_at hl 0 rfl) ?_
  refine lv_iconst (v := (4 : Int32)) hx hb dJ6_bitCount_0f7a4_26 (by decide) ?_
  refine lv_iushr (v := (x2.toUInt32 >>> ((4 : Int32).toUInt32 &&& Int32.toUInt32 31)).toInt32) hx hb dJ6_bitCount_0f7a4_27 rfl ?_
  refine lv_iadd hx hb dJ6_bitCount_0f7a4_28 ?_
  refine lv_ldcw (v := (252645135 : Int32)) hx hb hown (hts (.constant RJ6 267 (252645135)) (List.mem_of_getElem? (i := 3) rfl)) dJ6_bitCount_0f7a4_29 ?_
  refine lv_iand hx hb dJ6_bitCount_0f7a4_32 ?_
  refine lv_topi (fun x3 ex3 => ?_)
  replace h := h x3 ex3
  refine lv_istore_n (lv' := [(0, .int x3)]) hx hb dJ6_bitCount_0f7a4_33 rfl hl (by decide) rfl (fun ls hl => ?_)
  refine lv_iload_n hx hb dJ6_bitCount_0f7a4_34 rfl (lv_at hl 0 rfl) ?_
  refine lv_iload_n hx hb dJ6_bitCount_0f7a4_35 rfl (lv_at hl 0 rfl) ?_
  refine lv_bipush (v := (8 : Int32)) hx hb dJ6_bitCount_0f7a4_36 (by decide) ?_
  refine lv_iushr (v := (x3.toUInt32 >>> ((8 : Int32).toUInt32 &&& Int32.toUInt32 31)).toInt32) hx hb dJ6_bitCount_0f7a4_38 rfl ?_
  refine lv_iadd hx hb dJ6_bitCount_0f7a4_39 ?_
  refine lv_topi (fun x4 ex4 => ?_)
  replace h := h x4 ex4
  refine lv_istore_n (lv' := [(0, .int x4)]) hx hb dJ6_bitCount_0f7a4_40 rfl hl (by decide) rfl (fun ls hl => ?_)
  refine lv_iload_n hx hb dJ6_bitCount_0f7a4_41 rfl (lv_at hl 0 rfl) ?_
  refine lv_iload_n hx hb dJ6_bitCount_0f7a4_42 rfl (lv_at hl 0 rfl) ?_
  refine lv_bipush (v := (16 : Int32)) hx hb dJ6_bitCount_0f7a4_43 (by decide) ?_
  refine lv_iushr (v := (x4.toUInt32 >>> ((16 : Int32).toUInt32 &&& Int32.toUInt32 31)).toInt32) hx hb dJ6_bitCount_0f7a4_45 rfl ?_
  refine lv_iadd hx hb dJ6_bitCount_0f7a4_46 ?_
  refine lv_topi (fun x5 ex5 => ?_)
  replace h := h x5 ex5
  refine lv_istore_n (lv' := [(0, .int x5)]) hx hb dJ6_bitCount_0f7a4_47 rfl hl (by decide) rfl (fun ls hl => ?_)
  refine lv_iload_n hx hb dJ6_bitCount_0f7a4_48 rfl (lv_at hl 0 rfl) ?_
  refine lv_bipush (v := (63 : Int32)) hx hb dJ6_bitCount_0f7a4_49 (by decide) ?_
  refine lv_iand hx hb dJ6_bitCount_0f7a4_51 ?_
  rw [hQ]
  exact mreti (w := (fun _ : Unit => ([] : va_W))) (u := ()) hC hr hlocks hK hw ⟨rfl, h⟩ dJ6_bitCount_0f7a4_52
def wJ7_fill_53178 (f : Nat → Int32) (a2 : Int32) (post : (Nat → Int32) → Prop) : Prop :=
  wloop (σ := Int32 × (Nat → Int32)) (fun K3 z => match z with | (x1, f2) => (((16 : Int32) ≤ x1 → post f2) ∧ (¬ ((16 : Int32) ≤ x1) → vp_in x1 16 ∧ ∀ f9 : Nat → Int32, f9 = upd f2 x1.toNatClampNeg a2 → ∀ x10 : Int32, x10 = x1 + (1 : Int32) → K3 (x10, f9)))) ((0 : Int32), f)
set_option maxRecDepth 100000 in
set_option maxHeartbeats 4000000 in
theorem kJ7_fill_53178 (l : Launch) (g : Gl) (aK : Nat → Nat) (aV : Nat → Nat) (a : Nat) (sz : Nat) (f : Nat → Int32) (a2 : Int32) (post : (Nat → Int32) → Prop) (h : wJ7_fill_53178 f a2 post) : Met l yJ7_fill_53178 wsJ7_fill_53178 (rmm 0 0) (wPc g (E5 aK aV) ((wA16 g a) f) sz [.ref a, .int a2]) (va_Qv (fun (u : (Nat → Int32)) => post u) (wB g (wA16 g a) (va_A ((wA16 g a) f) sz)) (va_A ((wA16 g a) f) sz)) 0 0 (va_A ((wA16 g a) f) sz) := by
  refine mstart (Qf := fun A => va_Qv (fun (u : (Nat → Int32)) => post u) (wB g (wA16 g a) A) A) (by decide) rfl (Nat.le_of_ble_eq_true rfl) ?_
  intro p e s m args below meth c A Q H locs ls hC hr hlocks hname hQ hA hK hE hw hl
  have hC : CallFix p m c cJ7_fill_53178 4 s args wsJ7_fill_53178 RJ7 := hC
  obtain ⟨hx, hb, -, hown, hts⟩ := id hC
  have hl : lv_has ls 4 [(0, .ref a), (1, .int a2)] := hl
  rw [wJ7_fill_53178] at h
  refine lv_iconst (v := (0 : Int32)) hx hb dJ7_fill_53178_0 (by decide) ?_
  refine lv_istore_n (lv' := [(2, .int (0 : Int32)), (0, .ref a), (1, .int a2)]) hx hb dJ7_fill_53178_1 rfl hl (by decide) rfl (fun ls hl => ?_)
  refine lv_aload_n hx hb dJ7_fill_53178_2 rfl (lv_at hl 1 rfl) ?_
  refine va_alen hx hb hK hw.1 0 0 rfl rfl (v := (16 : Int32)) rfl dJ7_fill_53178_3 ?_
  refine lv_istore_n (lv' := [(3, .int (16 : Int32)), (2, .int (0 : Int32)), (0, .ref a), (1, .int a2)]) hx hb dJ7_fill_53178_4 rfl hl (by decide) rfl (fun ls hl => ?_)
  refine h (fun z => match z with | (x1, f2) => ∀ (H : Heap) (locs : List Loc) (ls : Array Slot), Wd g.1 A s.heap ((wA16 g a) f2) H locs → lv_has ls 4 [(0, .ref a), (1, .int a2), (2, .int x1), (3, .int (16 : Int32))] → W p l e (rmm 0 0) s m args below meth c H locs 0 0 Q (F0 m 5 ls [])) ?_ _ _ _ hw (lv_sub hl [2, 3, 1, 0] rfl)
  clear h hw hl
  rintro ⟨x1, f2⟩ h H locs ls hw hl
  refine lv_iload_n hx hb dJ7_fill_53178_5 rfl (lv_at hl 2 rfl) ?_
  refine lv_iload_n hx hb dJ7_fill_53178_6 rfl (lv_at hl 3 rfl) ?_
  refine lv_icmp_ge (tgt := 20) hx hb dJ7_fill_53178_7 (by decide) (fun c12 => ?_) (fun c12 => ?_)
  · replace h := h.1 c12
    rw [hQ]
    exact mretv (w := (wA16 g a)) (u := f2) hC hr hlocks hK hw h dJ7_fill_53178_20
  · replace h := h.2 c12
    refine lv_aload_n hx hb dJ7_fill_53178_10 rfl (lv_at hl 0 rfl) ?_
    refine lv_iload_n hx hb dJ7_fill_53178_11 rfl (lv_at hl 2 rfl) ?_
    refine lv_iload_n hx hb dJ7_fill_53178_12 rfl (lv_at hl 1 rfl) ?_
    obtain ⟨hi, h⟩ := h
    obtain ⟨f9, ef9⟩ : ∃ z, z = upd f2 x1.toNatClampNeg a2 := ⟨_, rfl⟩
    replace h := h f9 ef9
    refine va_iast hx hb hK hw.1 hw.2.1 hw.2.2 0 0 rfl rfl hi dJ7_fill_53178_13 (fun H locs hP hD hS => ?_)
    replace hw : Wd g.1 A s.heap ((wA16 g a) f9) H locs := by rw [ef9]; exact ⟨hP, hD, hS⟩
    obtain ⟨x10, ex10⟩ : ∃ y : Int32, y = x1 + (1 : Int32) := ⟨_, rfl⟩
    refine lv_iinc (v := x10) (lv' := [(2, .int x10), (0, .ref a), (1, .int a2), (3, .int (16 : Int32))]) hx hb dJ7_fill_53178_14 hl (k := 2) rfl (by rw [ex10]; rfl) (by decide) rfl (fun ls hl => ?_)
    replace h := h x10 ex10
    refine lv_goto (tgt := 5) hx hb dJ7_fill_53178_17 (by decide) ?_
    exact h _ _ _ hw (lv_sub hl [1, 2, 0, 3] rfl)
def wX5_holds  (a1 : Int32) (a2 : Int32) (post : Int32 → Prop) : Prop :=
  ((((a1 >>> (a2 &&& 31)) &&& (1 : Int32)) = 0 → post (0 : Int32)) ∧ (¬ (((a1 >>> (a2 &&& 31)) &&& (1 : Int32)) = 0) → post (1 : Int32)))
set_option maxRecDepth 100000 in
set_option maxHeartbeats 4000000 in
theorem kX5_holds (l : Launch) (g : Gl) (aK : Nat → Nat) (aV : Nat → Nat)  (sz : Nat)  (a1 : Int32) (a2 : Int32) (post : Int32 → Prop) (h : wX5_holds  a1 a2 post) : Met l yX5_holds wsX5_holds (rmm 0 0) (wPc g (E5 aK aV) (([] : va_W)) sz [.int a1, .int a2]) (va_Qi (fun (r : Int32) (u : Unit) => u = () ∧ post r) (wB g (fun _ : Unit => ([] : va_W)) (va_A (([] : va_W)) sz)) (va_A (([] : va_W)) sz)) 0 0 (va_A (([] : va_W)) sz) := by
  refine mstart (Qf := fun A => va_Qi (fun (r : Int32) (u : Unit) => u = () ∧ post r) (wB g (fun _ : Unit => ([] : va_W)) A) A) (by decide) rfl (Nat.le_of_ble_eq_true rfl) ?_
  intro p e s m args below meth c A Q H locs ls hC hr hlocks hname hQ hA hK hE hw hl
  have hC : CallFix p m c cX5_holds 2 s args wsX5_holds RX5 := hC
  obtain ⟨hx, hb, -, hown, hts⟩ := id hC
  have hl : lv_has ls 2 [(0, .int a1), (1, .int a2)] := hl
  rw [wX5_holds] at h
  refine lv_iload_n hx hb dX5_holds_0 rfl (lv_at hl 0 rfl) ?_
  refine lv_iload_n hx hb dX5_holds_1 rfl (lv_at hl 1 rfl) ?_
  refine lv_ishr hx hb dX5_holds_2 ?_
  refine lv_iconst (v := (1 : Int32)) hx hb dX5_holds_3 (by decide) ?_
  refine lv_iand hx hb dX5_holds_4 ?_
  refine lv_if_eq (tgt := 12) hx hb dX5_holds_5 (by decide) (fun c1 => ?_) (fun c1 => ?_)
  · replace h := h.1 c1
    refine lv_iconst (v := (0 : Int32)) hx hb dX5_holds_12 (by decide) ?_
    rw [hQ]
    exact mretz (w := (fun _ : Unit => ([] : va_W))) (u := ()) hC hr hlocks hK hw (Or.inl rfl) ⟨rfl, h⟩ dX5_holds_13
  · replace h := h.2 c1
    refine lv_iconst (v := (1 : Int32)) hx hb dX5_holds_8 (by decide) ?_
    refine lv_goto (tgt := 13) hx hb dX5_holds_9 (by decide) ?_
    rw [hQ]
    exact mretz (w := (fun _ : Unit => ([] : va_W))) (u := ()) hC hr hlocks hK hw (Or.inr rfl) ⟨rfl, h⟩ dX5_holds_13
def wX0_mayBegin (S : Bun) (a1 : Int32) (post : Int32 → Prop) : Prop :=
  wjoin (σ := Int32) (fun y1 => wX5_holds (S 0 1) a1 (fun r5 => ((r5 = 0 → post (0 : Int32)) ∧ (¬ (r5 = 0) → wjoin (σ := Unit) (fun _ => ((y1 = 0 → post (0 : Int32)) ∧ (¬ (y1 = 0) → post (1 : Int32)))) (fun J7 => (((S 0 3) < 0 → J7 ()) ∧ (¬ ((S 0 3) < 0) → (((S 0 3) = a1 → J7 ()) ∧ (¬ ((S 0 3) = a1) → post (0 : Int32)))))))))) (fun J2 => (((S 0 4) < 0 → J2 (1 : Int32)) ∧ (¬ ((S 0 4) < 0) → wX5_holds (S 0 1) (S 0 4) (fun r14 => ((r14 = 0 → J2 (0 : Int32)) ∧ (¬ (r14 = 0) → J2 (1 : Int32)))))))
set_option maxRecDepth 100000 in
set_option maxHeartbeats 4000000 in
theorem kX0_mayBegin (l : Launch) (g : Gl) (aK : Nat → Nat) (aV : Nat → Nat) (q : Nat → Nat) (sz : Nat) (S : Bun) (a1 : Int32) (post : Int32 → Prop) (h : wX0_mayBegin S a1 post) : Met l yX0_mayBegin wsX0_mayBegin (rmm 1 21) (wPc g (E5 aK aV) ((wF g q) S) sz [.ref (q 0), .int a1]) (va_Qi (fun (r : Int32) (u : Bun) => u = S ∧ post r) (wB g (wF g q) (va_A ((wF g q) S) sz)) (va_A ((wF g q) S) sz)) 0 0 (va_A ((wF g q) S) sz) := by
  refine mstart (Qf := fun A => va_Qi (fun (r : Int32) (u : Bun) => u = S ∧ post r) (wB g (wF g q) A) A) (by decide) rfl (Nat.le_of_ble_eq_true rfl) ?_
  intro p e s m args below meth c A Q H locs ls hC hr hlocks hname hQ hA hK hE hw hl
  have hC : CallFix p m c cX0_mayBegin 3 s args wsX0_mayBegin RX0 := hC
  obtain ⟨hx, hb, -, hown, hts⟩ := id hC
  have hl : lv_has ls 3 [(0, .ref (q 0)), (1, .int a1)] := hl
  rw [wX0_mayBegin] at h
  have hinX0 : ∀ w ∈ wsX00, w ∈ wsX0_mayBegin := fun w hw9 => List.mem_cons_of_mem _ (List.mem_append_right _ hw9)
  refine lv_aload_n hx hb dX0_mayBegin_0 rfl (lv_at hl 0 rfl) ?_
  refine F_fg4 hC hinX0 hK hw (List.mem_of_getElem? (i := 1) rfl) dX0_mayBegin_1 ?_
  obtain ⟨J2, hJ3, h⟩ := h
  have join4 : ∀ (y1 : Int32) (H : Heap) (locs : List Loc) (ls : Array Slot), J2 y1 → Wd g.1 A s.heap ((wF g q) S) H locs → lv_has ls 3 [(0, .ref (q 0)), (1, .int a1)] → W p l e (rmm 1 21) s m args below meth c H locs 0 0 Q (F0 m 26 ls [.int y1]) := by
    intro y1 H locs ls h hw hl
    replace h := hJ3 y1 h
    refine lv_istore_n (lv' := [(2, .int y1), (0, .ref (q 0)), (1, .int a1)]) hx hb dX0_mayBegin_26 rfl hl (by decide) rfl (fun ls hl => ?_)
    refine lv_aload_n hx hb dX0_mayBegin_27 rfl (lv_at hl 1 rfl) ?_
    refine F_fg1 hC hinX0 hK hw (List.mem_of_getElem? (i := 2) rfl) dX0_mayBegin_28 ?_
    refine lv_iload_n hx hb dX0_mayBegin_31 rfl (lv_at hl 2 rfl) ?_
    refine mcalli (w1 := (fun _ => (wF g q) S)) (wc := fun _ : Unit => ([] : va_W)) (u := ()) (va_runSN (As := [.int (S 0 1), .int a1]) (rest := []) hC (kX5_holds l g aK aV H.size (S 0 1) a1 _ h) ⟨va_cnB 2 hts gX0_mayBegin_X5_holds_n86 rfl rfl rfl hE.nMX0_86 (hts (.initialized RX5) (List.mem_of_getElem? (i := 5) rfl)) (by decide +kernel) ⟨Nat.le_of_ble_eq_true rfl, Nat.le_of_ble_eq_true rfl⟩, (hts (.static yX5_holds) (List.mem_of_getElem? (i := 4) rfl)), trivial⟩ (mpre (E5_ok aK aV) hK hE hA hw (Sub1.nil _)) rfl rfl hl.1 rfl (lv_room (Nat.le_of_ble_eq_true rfl)) dX0_mayBegin_32 ⟨Nat.zero_le _, Nat.zero_le _⟩) hA hw (Sub1.nil _) (fun _ => Sub.nil _) (fun r5 u6 H locs h hw => ?_)
    obtain ⟨_, h⟩ := h
    refine lv_if_eq (tgt := 61) hx hb dX0_mayBegin_35 (by decide) (fun c13 => ?_) (fun c13 => ?_)
    · replace h := h.1 c13
      refine lv_iconst (v := (0 : Int32)) hx hb dX0_mayBegin_61 (by decide) ?_
      rw [hQ]
      exact mretz (w := (wF g q)) (u := S) hC hr hlocks hK hw (Or.inl rfl) ⟨rfl, h⟩ dX0_mayBegin_62
    · replace h := h.2 c13
      refine lv_aload_n hx hb dX0_mayBegin_38 rfl (lv_at hl 1 rfl) ?_
      refine F_fg3 hC hinX0 hK hw (List.mem_of_getElem? (i := 3) rfl) dX0_mayBegin_39 ?_
      obtain ⟨J7, hJ8, h⟩ := h
      have join9 : ∀  (H : Heap) (locs : List Loc) (ls : Array Slot), J7 () → Wd g.1 A s.heap ((wF g q) S) H locs → lv_has ls 3 [(2, .int y1)] → W p l e (rmm 1 21) s m args below meth c H locs 0 0 Q (F0 m 53 ls []) := by
        intro  H locs ls h hw hl
        replace h := hJ8 () h
        refine lv_iload_n hx hb dX0_mayBegin_53 rfl (lv_at hl 0 rfl) ?_
        refine lv_if_eq (tgt := 61) hx hb dX0_mayBegin_54 (by decide) (fun c10 => ?_) (fun c10 => ?_)
        · replace h := h.1 c10
          refine lv_iconst (v := (0 : Int32)) hx hb dX0_mayBegin_61 (by decide) ?_
          rw [hQ]
          exact mretz (w := (wF g q)) (u := S) hC hr hlocks hK hw (Or.inl rfl) ⟨rfl, h⟩ dX0_mayBegin_62
        · replace h := h.2 c10
          refine lv_iconst (v := (1 : Int32)) hx hb dX0_mayBegin_57 (by decide) ?_
          refine lv_goto (tgt := 62) hx hb dX0_mayBegin_58 (by decide) ?_
          rw [hQ]
          exact mretz (w := (wF g q)) (u := S) hC hr hlocks hK hw (Or.inr rfl) ⟨rfl, h⟩ dX0_mayBegin_62
      refine lv_if_lt (tgt := 53) hx hb dX0_mayBegin_42 (by decide) (fun c12 => ?_) (fun c12 => ?_)
      · replace h := h.1 c12
        exact join9  _ _ _ h hw (lv_sub hl [0] rfl)
      · replace h := h.2 c12
        refine lv_aload_n hx hb dX0_mayBegin_45 rfl (lv_at hl 1 rfl) ?_
        refine F_fg3 hC hinX0 hK hw (List.mem_of_getElem? (i := 3) rfl) dX0_mayBegin_46 ?_
        refine lv_iload_n hx hb dX0_mayBegin_49 rfl (lv_at hl 2 rfl) ?_
        refine lv_icmp_ne (tgt := 61) hx hb dX0_mayBegin_50 (by decide) (fun c11 => ?_) (fun c11 => ?_)
        · replace h := h.2 c11
          refine lv_iconst (v := (0 : Int32)) hx hb dX0_mayBegin_61 (by decide) ?_
          rw [hQ]
          exact mretz (w := (wF g q)) (u := S) hC hr hlocks hK hw (Or.inl rfl) ⟨rfl, h⟩ dX0_mayBegin_62
        · replace h := h.1 c11
          exact join9  _ _ _ h hw (lv_sub hl [0] rfl)
  refine lv_if_lt (tgt := 21) hx hb dX0_mayBegin_4 (by decide) (fun c17 => ?_) (fun c17 => ?_)
  · replace h := h.1 c17
    refine lv_iconst (v := (1 : Int32)) hx hb dX0_mayBegin_21 (by decide) ?_
    refine lv_goto (tgt := 26) hx hb dX0_mayBegin_22 (by decide) ?_
    exact join4 (1 : Int32) _ _ _ h hw (lv_sub hl [0, 1] rfl)
  · replace h := h.2 c17
    refine lv_aload_n hx hb dX0_mayBegin_7 rfl (lv_at hl 0 rfl) ?_
    refine F_fg1 hC hinX0 hK hw (List.mem_of_getElem? (i := 2) rfl) dX0_mayBegin_8 ?_
    refine lv_aload_n hx hb dX0_mayBegin_11 rfl (lv_at hl 0 rfl) ?_
    refine F_fg4 hC hinX0 hK hw (List.mem_of_getElem? (i := 1) rfl) dX0_mayBegin_12 ?_
    refine mcalli (w1 := (fun _ => (wF g q) S)) (wc := fun _ : Unit => ([] : va_W)) (u := ()) (va_runSN (As := [.int (S 0 1), .int (S 0 4)]) (rest := []) hC (kX5_holds l g aK aV H.size (S 0 1) (S 0 4) _ h) ⟨va_cnB 2 hts gX0_mayBegin_X5_holds_n86 rfl rfl rfl hE.nMX0_86 (hts (.initialized RX5) (List.mem_of_getElem? (i := 5) rfl)) (by decide +kernel) ⟨Nat.le_of_ble_eq_true rfl, Nat.le_of_ble_eq_true rfl⟩, (hts (.static yX5_holds) (List.mem_of_getElem? (i := 4) rfl)), trivial⟩ (mpre (E5_ok aK aV) hK hE hA hw (Sub1.nil _)) rfl rfl hl.1 rfl (lv_room (Nat.le_of_ble_eq_true rfl)) dX0_mayBegin_15 ⟨Nat.zero_le _, Nat.zero_le _⟩) hA hw (Sub1.nil _) (fun _ => Sub.nil _) (fun r14 u15 H locs h hw => ?_)
    obtain ⟨_, h⟩ := h
    refine lv_if_eq (tgt := 25) hx hb dX0_mayBegin_18 (by decide) (fun c16 => ?_) (fun c16 => ?_)
    · replace h := h.1 c16
      refine lv_iconst (v := (0 : Int32)) hx hb dX0_mayBegin_25 (by decide) ?_
      exact join4 (0 : Int32) _ _ _ h hw (lv_sub hl [0, 1] rfl)
    · replace h := h.2 c16
      refine lv_iconst (v := (1 : Int32)) hx hb dX0_mayBegin_21 (by decide) ?_
      refine lv_goto (tgt := 26) hx hb dX0_mayBegin_22 (by decide) ?_
      exact join4 (1 : Int32) _ _ _ h hw (lv_sub hl [0, 1] rfl)
def wX5_coloursOf  (a1 : Int32) (post : Int32 → Prop) : Prop :=
  wJ6_bitCount_0f7a4 (a1 &&& (42405 : Int32)) (fun r1 => wJ6_bitCount_0f7a4 (a1 &&& (-42406 : Int32)) (fun r3 => post (r1 - r3)))
set_option maxRecDepth 100000 in
set_option maxHeartbeats 4000000 in
theorem kX5_coloursOf (l : Launch) (g : Gl) (aK : Nat → Nat) (aV : Nat → Nat)  (sz : Nat)  (a1 : Int32) (post : Int32 → Prop) (h : wX5_coloursOf  a1 post) : Met l yX5_coloursOf wsX5_coloursOf (rmm 1 20) (wPc g (E5 aK aV) (([] : va_W)) sz [.int a1]) (va_Qi (fun (r : Int32) (u : Unit) => u = () ∧ post r) (wB g (fun _ : Unit => ([] : va_W)) (va_A (([] : va_W)) sz)) (va_A (([] : va_W)) sz)) 0 0 (va_A (([] : va_W)) sz) := by
  refine mstart (Qf := fun A => va_Qi (fun (r : Int32) (u : Unit) => u = () ∧ post r) (wB g (fun _ : Unit => ([] : va_W)) A) A) (by decide) rfl (Nat.le_of_ble_eq_true rfl) ?_
  intro p e s m args below meth c A Q H locs ls hC hr hlocks hname hQ hA hK hE hw hl
  have hC : CallFix p m c cX5_coloursOf 1 s args wsX5_coloursOf RX5 := hC
  obtain ⟨hx, hb, -, hown, hts⟩ := id hC
  have hl : lv_has ls 1 [(0, .int a1)] := hl
  rw [wX5_coloursOf] at h
  refine lv_iload_n hx hb dX5_coloursOf_0 rfl (lv_at hl 0 rfl) ?_
  refine lv_ldcw (v := (42405 : Int32)) hx hb hown (hts (.constant RX5 307 (42405)) (List.mem_of_getElem? (i := 1) rfl)) dX5_coloursOf_1 ?_
  refine lv_iand hx hb dX5_coloursOf_4 ?_
  refine mcalli (w1 := (fun _ => ([] : va_W))) (wc := fun _ : Unit => ([] : va_W)) (u := ()) (va_runS (As := [.int (a1 &&& (42405 : Int32))]) (rest := []) hC (kJ6_bitCount_0f7a4 l g aK aV H.size (a1 &&& (42405 : Int32)) _ h) (va_cwS 1 hts gX5_coloursOf_J6_bitCount_0f7a4 rfl rfl rfl (by decide +kernel) ⟨Nat.le_of_ble_eq_true rfl, Nat.le_of_ble_eq_true rfl⟩) (mpre (E5_ok aK aV) hK hE hA hw (Sub1.nil _)) rfl rfl hl.1 rfl (lv_room (Nat.le_of_ble_eq_true rfl)) dX5_coloursOf_5 ⟨Nat.zero_le _, Nat.zero_le _⟩) hA hw (Sub1.nil _) (fun _ => Sub.nil _) (fun r1 u2 H locs h hw => ?_)
  obtain ⟨_, h⟩ := h
  refine lv_iload_n hx hb dX5_coloursOf_8 rfl (lv_at hl 0 rfl) ?_
  refine lv_ldcw (v := (-42406 : Int32)) hx hb hown (hts (.constant RX5 313 (-42406)) (List.mem_of_getElem? (i := 2) rfl)) dX5_coloursOf_9 ?_
  refine lv_iand hx hb dX5_coloursOf_12 ?_
  refine mcalli (w1 := (fun _ => ([] : va_W))) (wc := fun _ : Unit => ([] : va_W)) (u := ()) (va_runS (As := [.int (a1 &&& (-42406 : Int32))]) (rest := [.int r1]) hC (kJ6_bitCount_0f7a4 l g aK aV H.size (a1 &&& (-42406 : Int32)) _ h) (va_cwS 1 hts gX5_coloursOf_J6_bitCount_0f7a4 rfl rfl rfl (by decide +kernel) ⟨Nat.le_of_ble_eq_true rfl, Nat.le_of_ble_eq_true rfl⟩) (mpre (E5_ok aK aV) hK hE hA hw (Sub1.nil _)) rfl rfl hl.1 rfl (lv_room (Nat.le_of_ble_eq_true rfl)) dX5_coloursOf_13 ⟨Nat.zero_le _, Nat.zero_le _⟩) hA hw (Sub1.nil _) (fun _ => Sub.nil _) (fun r3 u4 H locs h hw => ?_)
  obtain ⟨_, h⟩ := h
  refine lv_isub hx hb dX5_coloursOf_16 ?_
  rw [hQ]
  exact mreti (w := (fun _ : Unit => ([] : va_W))) (u := ()) hC hr hlocks hK hw ⟨rfl, h⟩ dX5_coloursOf_17
def wX5_isEven  (a1 : Int32) (post : Int32 → Prop) : Prop :=
  wX5_holds (42405 : Int32) a1 (fun r1 => zb r1 ∧ post r1)
set_option maxRecDepth 100000 in
set_option maxHeartbeats 4000000 in
theorem kX5_isEven (l : Launch) (g : Gl) (aK : Nat → Nat) (aV : Nat → Nat)  (sz : Nat)  (a1 : Int32) (post : Int32 → Prop) (h : wX5_isEven  a1 post) : Met l yX5_isEven wsX5_isEven (rmm 1 21) (wPc g (E5 aK aV) (([] : va_W)) sz [.int a1]) (va_Qi (fun (r : Int32) (u : Unit) => u = () ∧ post r) (wB g (fun _ : Unit => ([] : va_W)) (va_A (([] : va_W)) sz)) (va_A (([] : va_W)) sz)) 0 0 (va_A (([] : va_W)) sz) := by
  refine mstart (Qf := fun A => va_Qi (fun (r : Int32) (u : Unit) => u = () ∧ post r) (wB g (fun _ : Unit => ([] : va_W)) A) A) (by decide) rfl (Nat.le_of_ble_eq_true rfl) ?_
  intro p e s m args below meth c A Q H locs ls hC hr hlocks hname hQ hA hK hE hw hl
  have hC : CallFix p m c cX5_isEven 1 s args wsX5_isEven RX5 := hC
  obtain ⟨hx, hb, -, hown, hts⟩ := id hC
  have hl : lv_has ls 1 [(0, .int a1)] := hl
  rw [wX5_isEven] at h
  refine lv_ldcw (v := (42405 : Int32)) hx hb hown (hts (.constant RX5 307 (42405)) (List.mem_of_getElem? (i := 1) rfl)) dX5_isEven_0 ?_
  refine lv_iload_n hx hb dX5_isEven_3 rfl (lv_at hl 0 rfl) ?_
  refine mcalli (w1 := (fun _ => ([] : va_W))) (wc := fun _ : Unit => ([] : va_W)) (u := ()) (va_runS (As := [.int (42405 : Int32), .int a1]) (rest := []) hC (kX5_holds l g aK aV H.size (42405 : Int32) a1 _ h) (va_cwS 2 hts gX5_isEven_X5_holds rfl rfl rfl (by decide +kernel) ⟨Nat.le_of_ble_eq_true rfl, Nat.le_of_ble_eq_true rfl⟩) (mpre (E5_ok aK aV) hK hE hA hw (Sub1.nil _)) rfl rfl hl.1 rfl (lv_room (Nat.le_of_ble_eq_true rfl)) dX5_isEven_4 ⟨Nat.zero_le _, Nat.zero_le _⟩) hA hw (Sub1.nil _) (fun _ => Sub.nil _) (fun r1 u2 H locs h hw => ?_)
  obtain ⟨_, h⟩ := h
  obtain ⟨hz, h⟩ := h
  rw [hQ]
  exact mretz (w := (fun _ : Unit => ([] : va_W))) (u := ()) hC hr hlocks hK hw hz ⟨rfl, h⟩ dX5_isEven_7
def wX5_barOf  (a1 : Int32) (a2 : Int32) (a3 : Int32) (post : Int32 → Prop) : Prop :=
  ((a1 = 0 → post (0 : Int32)) ∧ (¬ (a1 = 0) → wX5_coloursOf a1 (fun r1 => (((1 : Int32) < r1 → post (1 : Int32)) ∧ (¬ ((1 : Int32) < r1) → (((-1 : Int32) ≤ r1 → ((r1 = 0 → ((a2 < 0 → post (0 : Int32)) ∧ (¬ (a2 < 0) → ((a3 < 0 → post (0 : Int32)) ∧ (¬ (a3 < 0) → wX5_isEven a2 (fun r26 => wX5_isEven a3 (fun r28 => ((r26 = r28 → post (2 : Int32)) ∧ (¬ (r26 = r28) → post (0 : Int32)))))))))) ∧ (¬ (r1 = 0) → wjoin (σ := Int32) (fun y3 => wjoin (σ := Int32) (fun y7 => wjoin (σ := Int32) (fun y11 => ((y7 = 0 → ((y11 = 0 → post (0 : Int32)) ∧ (¬ (y11 = 0) → post (2 : Int32)))) ∧ (¬ (y7 = 0) → post (2 : Int32)))) (fun J12 => ((a3 < 0 → J12 (0 : Int32)) ∧ (¬ (a3 < 0) → wX5_isEven a3 (fun r17 => ((r17 = y3 → J12 (0 : Int32)) ∧ (¬ (r17 = y3) → J12 (1 : Int32)))))))) (fun J8 => ((a2 < 0 → J8 (0 : Int32)) ∧ (¬ (a2 < 0) → wX5_isEven a2 (fun r21 => ((r21 = y3 → J8 (0 : Int32)) ∧ (¬ (r21 = y3) → J8 (1 : Int32)))))))) (fun J4 => ((r1 = (1 : Int32) → J4 (1 : Int32)) ∧ (¬ (r1 = (1 : Int32)) → J4 (0 : Int32))))))) ∧ (¬ ((-1 : Int32) ≤ r1) → post (1 : Int32))))))))
set_option maxRecDepth 100000 in
set_option maxHeartbeats 4000000 in
theorem kX5_barOf (l : Launch) (g : Gl) (aK : Nat → Nat) (aV : Nat → Nat)  (sz : Nat)  (a1 : Int32) (a2 : Int32) (a3 : Int32) (post : Int32 → Prop) (h : wX5_barOf  a1 a2 a3 post) : Met l yX5_barOf wsX5_barOf (rmm 2 41) (wPc g (E5 aK aV) (([] : va_W)) sz [.int a1, .int a2, .int a3]) (va_Qi (fun (r : Int32) (u : Unit) => u = () ∧ post r) (wB g (fun _ : Unit => ([] : va_W)) (va_A (([] : va_W)) sz)) (va_A (([] : va_W)) sz)) 0 0 (va_A (([] : va_W)) sz) := by
  refine mstart (Qf := fun A => va_Qi (fun (r : Int32) (u : Unit) => u = () ∧ post r) (wB g (fun _ : Unit => ([] : va_W)) A) A) (by decide) rfl (Nat.le_of_ble_eq_true rfl) ?_
  intro p e s m args below meth c A Q H locs ls hC hr hlocks hname hQ hA hK hE hw hl
  have hC : CallFix p m c cX5_barOf 7 s args wsX5_barOf RX5 := hC
  obtain ⟨hx, hb, -, hown, hts⟩ := id hC
  have hl : lv_has ls 7 [(0, .int a1), (1, .int a2), (2, .int a3)] := hl
  rw [wX5_barOf] at h
  refine lv_iload_n hx hb dX5_barOf_0 rfl (lv_at hl 0 rfl) ?_
  refine lv_if_ne (tgt := 6) hx hb dX5_barOf_1 (by decide) (fun c36 => ?_) (fun c36 => ?_)
  · replace h := h.2 c36
    refine lv_iload_n hx hb dX5_barOf_6 rfl (lv_at hl 0 rfl) ?_
    refine mcalli (w1 := (fun _ => ([] : va_W))) (wc := fun _ : Unit => ([] : va_W)) (u := ()) (va_runS (As := [.int a1]) (rest := []) hC (kX5_coloursOf l g aK aV H.size a1 _ h) (va_cwS 1 hts gX5_barOf_X5_coloursOf rfl rfl rfl (by decide +kernel) ⟨Nat.le_of_ble_eq_true rfl, Nat.le_of_ble_eq_true rfl⟩) (mpre (E5_ok aK aV) hK hE hA hw (Sub1.nil _)) rfl rfl hl.1 rfl (lv_room (Nat.le_of_ble_eq_true rfl)) dX5_barOf_7 ⟨Nat.zero_le _, Nat.zero_le _⟩) hA hw (Sub1.nil _) (fun _ => Sub.nil _) (fun r1 u2 H locs h hw => ?_)
    obtain ⟨_, h⟩ := h
    refine lv_istore_n (lv' := [(3, .int r1), (0, .int a1), (1, .int a2), (2, .int a3)]) hx hb dX5_barOf_10 rfl hl (by decide) rfl (fun ls hl => ?_)
    refine lv_iload_n hx hb dX5_barOf_11 rfl (lv_at hl 0 rfl) ?_
    refine lv_iconst (v := (1 : Int32)) hx hb dX5_barOf_12 (by decide) ?_
    refine lv_icmp_gt (tgt := 21) hx hb dX5_barOf_13 (by decide) (fun c35 => ?_) (fun c35 => ?_)
    · replace h := h.1 c35
      refine lv_iconst (v := (1 : Int32)) hx hb dX5_barOf_21 (by decide) ?_
      rw [hQ]
      exact mreti (w := (fun _ : Unit => ([] : va_W))) (u := ()) hC hr hlocks hK hw ⟨rfl, h⟩ dX5_barOf_22
    · replace h := h.2 c35
      refine lv_iload_n hx hb dX5_barOf_16 rfl (lv_at hl 0 rfl) ?_
      refine lv_iconst (v := (-1 : Int32)) hx hb dX5_barOf_17 (by decide) ?_
      refine lv_icmp_ge (tgt := 23) hx hb dX5_barOf_18 (by decide) (fun c34 => ?_) (fun c34 => ?_)
      · replace h := h.1 c34
        refine lv_iload_n hx hb dX5_barOf_23 rfl (lv_at hl 0 rfl) ?_
        refine lv_if_ne (tgt := 52) hx hb dX5_barOf_24 (by decide) (fun c33 => ?_) (fun c33 => ?_)
        · replace h := h.2 c33
          refine lv_iload_n hx hb dX5_barOf_52 rfl (lv_at hl 0 rfl) ?_
          refine lv_iconst (v := (1 : Int32)) hx hb dX5_barOf_53 (by decide) ?_
          obtain ⟨J4, hJ5, h⟩ := h
          have join6 : ∀ (y3 : Int32) (H : Heap) (locs : List Loc) (ls : Array Slot), J4 y3 → Wd g.1 A s.heap (([] : va_W)) H locs → lv_has ls 7 [(1, .int a2), (2, .int a3)] → W p l e (rmm 2 41) s m args below meth c H locs 0 0 Q (F0 m 62 ls [.int y3]) := by
            intro y3 H locs ls h hw hl
            replace h := hJ5 y3 h
            refine lv_istore (lv' := [(4, .int y3), (1, .int a2), (2, .int a3)]) hx hb dX5_barOf_62 hl (by decide) rfl (fun ls hl => ?_)
            refine lv_iload_n hx hb dX5_barOf_64 rfl (lv_at hl 1 rfl) ?_
            obtain ⟨J8, hJ9, h⟩ := h
            have join10 : ∀ (y7 : Int32) (H : Heap) (locs : List Loc) (ls : Array Slot), J8 y7 → Wd g.1 A s.heap (([] : va_W)) H locs → lv_has ls 7 [(2, .int a3), (4, .int y3)] → W p l e (rmm 2 41) s m args below meth c H locs 0 0 Q (F0 m 82 ls [.int y7]) := by
              intro y7 H locs ls h hw hl
              replace h := hJ9 y7 h
              refine lv_istore (lv' := [(5, .int y7), (2, .int a3), (4, .int y3)]) hx hb dX5_barOf_82 hl (by decide) rfl (fun ls hl => ?_)
              refine lv_iload_n hx hb dX5_barOf_84 rfl (lv_at hl 1 rfl) ?_
              obtain ⟨J12, hJ13, h⟩ := h
              have join14 : ∀ (y11 : Int32) (H : Heap) (locs : List Loc) (ls : Array Slot), J12 y11 → Wd g.1 A s.heap (([] : va_W)) H locs → lv_has ls 7 [(5, .int y7)] → W p l e (rmm 2 41) s m args below meth c H locs 0 0 Q (F0 m 102 ls [.int y11]) := by
                intro y11 H locs ls h hw hl
                replace h := hJ13 y11 h
                refine lv_istore (lv' := [(6, .int y11), (5, .int y7)]) hx hb dX5_barOf_102 hl (by decide) rfl (fun ls hl => ?_)
                refine lv_iload hx hb dX5_barOf_104 (lv_at hl 1 rfl) ?_
                refine lv_if_ne (tgt := 114) hx hb dX5_barOf_106 (by decide) (fun c16 => ?_) (fun c16 => ?_)
                · replace h := h.2 c16
                  refine lv_iconst (v := (2 : Int32)) hx hb dX5_barOf_114 (by decide) ?_
                  refine lv_goto (tgt := 119) hx hb dX5_barOf_115 (by decide) ?_
                  rw [hQ]
                  exact mreti (w := (fun _ : Unit => ([] : va_W))) (u := ()) hC hr hlocks hK hw ⟨rfl, h⟩ dX5_barOf_119
                · replace h := h.1 c16
                  refine lv_iload hx hb dX5_barOf_109 (lv_at hl 0 rfl) ?_
                  refine lv_if_eq (tgt := 118) hx hb dX5_barOf_111 (by decide) (fun c15 => ?_) (fun c15 => ?_)
                  · replace h := h.1 c15
                    refine lv_iconst (v := (0 : Int32)) hx hb dX5_barOf_118 (by decide) ?_
                    rw [hQ]
                    exact mreti (w := (fun _ : Unit => ([] : va_W))) (u := ()) hC hr hlocks hK hw ⟨rfl, h⟩ dX5_barOf_119
                  · replace h := h.2 c15
                    refine lv_iconst (v := (2 : Int32)) hx hb dX5_barOf_114 (by decide) ?_
                    refine lv_goto (tgt := 119) hx hb dX5_barOf_115 (by decide) ?_
                    rw [hQ]
                    exact mreti (w := (fun _ : Unit => ([] : va_W))) (u := ()) hC hr hlocks hK hw ⟨rfl, h⟩ dX5_barOf_119
              refine lv_if_lt (tgt := 101) hx hb dX5_barOf_85 (by decide) (fun c20 => ?_) (fun c20 => ?_)
              · replace h := h.1 c20
                refine lv_iconst (v := (0 : Int32)) hx hb dX5_barOf_101 (by decide) ?_
                exact join14 (0 : Int32) _ _ _ h hw (lv_sub hl [0] rfl)
              · replace h := h.2 c20
                refine lv_iload_n hx hb dX5_barOf_88 rfl (lv_at hl 1 rfl) ?_
                refine mcalli (w1 := (fun _ => ([] : va_W))) (wc := fun _ : Unit => ([] : va_W)) (u := ()) (va_runS (As := [.int a3]) (rest := []) hC (kX5_isEven l g aK aV H.size a3 _ h) (va_cwS 1 hts gX5_barOf_X5_isEven rfl rfl rfl (by decide +kernel) ⟨Nat.le_of_ble_eq_true rfl, Nat.le_of_ble_eq_true rfl⟩) (mpre (E5_ok aK aV) hK hE hA hw (Sub1.nil _)) rfl rfl hl.1 rfl (lv_room (Nat.le_of_ble_eq_true rfl)) dX5_barOf_89 ⟨Nat.zero_le _, Nat.zero_le _⟩) hA hw (Sub1.nil _) (fun _ => Sub.nil _) (fun r17 u18 H locs h hw => ?_)
                obtain ⟨_, h⟩ := h
                refine lv_iload hx hb dX5_barOf_92 (lv_at hl 2 rfl) ?_
                refine lv_icmp_eq (tgt := 101) hx hb dX5_barOf_94 (by decide) (fun c19 => ?_) (fun c19 => ?_)
                · replace h := h.1 c19
                  refine lv_iconst (v := (0 : Int32)) hx hb dX5_barOf_101 (by decide) ?_
                  exact join14 (0 : Int32) _ _ _ h hw (lv_sub hl [0] rfl)
                · replace h := h.2 c19
                  refine lv_iconst (v := (1 : Int32)) hx hb dX5_barOf_97 (by decide) ?_
                  refine lv_goto (tgt := 102) hx hb dX5_barOf_98 (by decide) ?_
                  exact join14 (1 : Int32) _ _ _ h hw (lv_sub hl [0] rfl)
            refine lv_if_lt (tgt := 81) hx hb dX5_barOf_65 (by decide) (fun c24 => ?_) (fun c24 => ?_)
            · replace h := h.1 c24
              refine lv_iconst (v := (0 : Int32)) hx hb dX5_barOf_81 (by decide) ?_
              exact join10 (0 : Int32) _ _ _ h hw (lv_sub hl [2, 0] rfl)
            · replace h := h.2 c24
              refine lv_iload_n hx hb dX5_barOf_68 rfl (lv_at hl 1 rfl) ?_
              refine mcalli (w1 := (fun _ => ([] : va_W))) (wc := fun _ : Unit => ([] : va_W)) (u := ()) (va_runS (As := [.int a2]) (rest := []) hC (kX5_isEven l g aK aV H.size a2 _ h) (va_cwS 1 hts gX5_barOf_X5_isEven rfl rfl rfl (by decide +kernel) ⟨Nat.le_of_ble_eq_true rfl, Nat.le_of_ble_eq_true rfl⟩) (mpre (E5_ok aK aV) hK hE hA hw (Sub1.nil _)) rfl rfl hl.1 rfl (lv_room (Nat.le_of_ble_eq_true rfl)) dX5_barOf_69 ⟨Nat.zero_le _, Nat.zero_le _⟩) hA hw (Sub1.nil _) (fun _ => Sub.nil _) (fun r21 u22 H locs h hw => ?_)
              obtain ⟨_, h⟩ := h
              refine lv_iload hx hb dX5_barOf_72 (lv_at hl 0 rfl) ?_
              refine lv_icmp_eq (tgt := 81) hx hb dX5_barOf_74 (by decide) (fun c23 => ?_) (fun c23 => ?_)
              · replace h := h.1 c23
                refine lv_iconst (v := (0 : Int32)) hx hb dX5_barOf_81 (by decide) ?_
                exact join10 (0 : Int32) _ _ _ h hw (lv_sub hl [2, 0] rfl)
              · replace h := h.2 c23
                refine lv_iconst (v := (1 : Int32)) hx hb dX5_barOf_77 (by decide) ?_
                refine lv_goto (tgt := 82) hx hb dX5_barOf_78 (by decide) ?_
                exact join10 (1 : Int32) _ _ _ h hw (lv_sub hl [2, 0] rfl)
          refine lv_icmp_ne (tgt := 61) hx hb dX5_barOf_54 (by decide) (fun c25 => ?_) (fun c25 => ?_)
          · replace h := h.2 c25
            refine lv_iconst (v := (0 : Int32)) hx hb dX5_barOf_61 (by decide) ?_
            exact join6 (0 : Int32) _ _ _ h hw (lv_sub hl [2, 3] rfl)
          · replace h := h.1 c25
            refine lv_iconst (v := (1 : Int32)) hx hb dX5_barOf_57 (by decide) ?_
            refine lv_goto (tgt := 62) hx hb dX5_barOf_58 (by decide) ?_
            exact join6 (1 : Int32) _ _ _ h hw (lv_sub hl [2, 3] rfl)
        · replace h := h.1 c33
          refine lv_iload_n hx hb dX5_barOf_27 rfl (lv_at hl 2 rfl) ?_
          refine lv_if_lt (tgt := 50) hx hb dX5_barOf_28 (by decide) (fun c32 => ?_) (fun c32 => ?_)
          · replace h := h.1 c32
            refine lv_iconst (v := (0 : Int32)) hx hb dX5_barOf_50 (by decide) ?_
            rw [hQ]
            exact mreti (w := (fun _ : Unit => ([] : va_W))) (u := ()) hC hr hlocks hK hw ⟨rfl, h⟩ dX5_barOf_51
          · replace h := h.2 c32
            refine lv_iload_n hx hb dX5_barOf_31 rfl (lv_at hl 3 rfl) ?_
            refine lv_if_lt (tgt := 50) hx hb dX5_barOf_32 (by decide) (fun c31 => ?_) (fun c31 => ?_)
            · replace h := h.1 c31
              refine lv_iconst (v := (0 : Int32)) hx hb dX5_barOf_50 (by decide) ?_
              rw [hQ]
              exact mreti (w := (fun _ : Unit => ([] : va_W))) (u := ()) hC hr hlocks hK hw ⟨rfl, h⟩ dX5_barOf_51
            · replace h := h.2 c31
              refine lv_iload_n hx hb dX5_barOf_35 rfl (lv_at hl 2 rfl) ?_
              refine mcalli (w1 := (fun _ => ([] : va_W))) (wc := fun _ : Unit => ([] : va_W)) (u := ()) (va_runS (As := [.int a2]) (rest := []) hC (kX5_isEven l g aK aV H.size a2 _ h) (va_cwS 1 hts gX5_barOf_X5_isEven rfl rfl rfl (by decide +kernel) ⟨Nat.le_of_ble_eq_true rfl, Nat.le_of_ble_eq_true rfl⟩) (mpre (E5_ok aK aV) hK hE hA hw (Sub1.nil _)) rfl rfl hl.1 rfl (lv_room (Nat.le_of_ble_eq_true rfl)) dX5_barOf_36 ⟨Nat.zero_le _, Nat.zero_le _⟩) hA hw (Sub1.nil _) (fun _ => Sub.nil _) (fun r26 u27 H locs h hw => ?_)
              obtain ⟨_, h⟩ := h
              refine lv_iload_n hx hb dX5_barOf_39 rfl (lv_at hl 3 rfl) ?_
              refine mcalli (w1 := (fun _ => ([] : va_W))) (wc := fun _ : Unit => ([] : va_W)) (u := ()) (va_runS (As := [.int a3]) (rest := [.int r26]) hC (kX5_isEven l g aK aV H.size a3 _ h) (va_cwS 1 hts gX5_barOf_X5_isEven rfl rfl rfl (by decide +kernel) ⟨Nat.le_of_ble_eq_true rfl, Nat.le_of_ble_eq_true rfl⟩) (mpre (E5_ok aK aV) hK hE hA hw (Sub1.nil _)) rfl rfl hl.1 rfl (lv_room (Nat.le_of_ble_eq_true rfl)) dX5_barOf_40 ⟨Nat.zero_le _, Nat.zero_le _⟩) hA hw (Sub1.nil _) (fun _ => Sub.nil _) (fun r28 u29 H locs h hw => ?_)
              obtain ⟨_, h⟩ := h
              refine lv_icmp_ne (tgt := 50) hx hb dX5_barOf_43 (by decide) (fun c30 => ?_) (fun c30 => ?_)
              · replace h := h.2 c30
                refine lv_iconst (v := (0 : Int32)) hx hb dX5_barOf_50 (by decide) ?_
                rw [hQ]
                exact mreti (w := (fun _ : Unit => ([] : va_W))) (u := ()) hC hr hlocks hK hw ⟨rfl, h⟩ dX5_barOf_51
              · replace h := h.1 c30
                refine lv_iconst (v := (2 : Int32)) hx hb dX5_barOf_46 (by decide) ?_
                refine lv_goto (tgt := 51) hx hb dX5_barOf_47 (by decide) ?_
                rw [hQ]
                exact mreti (w := (fun _ : Unit => ([] : va_W))) (u := ()) hC hr hlocks hK hw ⟨rfl, h⟩ dX5_barOf_51
      · replace h := h.2 c34
        refine lv_iconst (v := (1 : Int32)) hx hb dX5_barOf_21 (by decide) ?_
        rw [hQ]
        exact mreti (w := (fun _ : Unit => ([] : va_W))) (u := ()) hC hr hlocks hK hw ⟨rfl, h⟩ dX5_barOf_22
  · replace h := h.1 c36
    refine lv_iconst (v := (0 : Int32)) hx hb dX5_barOf_4 (by decide) ?_
    rw [hQ]
    exact mreti (w := (fun _ : Unit => ([] : va_W))) (u := ()) hC hr hlocks hK hw ⟨rfl, h⟩ dX5_barOf_5
def wX0_keepLeast (f : Nat → Int32) (a2 : Int32) (a3 : Int32) (post : (Nat → Int32) → Prop) : Prop :=
  vp_in a2 16 ∧ wjoin (σ := Unit) (fun _ => vp_in a2 16 ∧ ∀ f4 : Nat → Int32, f4 = upd f a2.toNatClampNeg a3 → post f4) (fun J1 => (((f a2.toNatClampNeg) < 0 → J1 ()) ∧ (¬ ((f a2.toNatClampNeg) < 0) → vp_in a2 16 ∧ (((f a2.toNatClampNeg) ≤ a3 → post f) ∧ (¬ ((f a2.toNatClampNeg) ≤ a3) → J1 ())))))
set_option maxRecDepth 100000 in
set_option maxHeartbeats 4000000 in
theorem kX0_keepLeast (l : Launch) (g : Gl) (aK : Nat → Nat) (aV : Nat → Nat) (a : Nat) (sz : Nat) (f : Nat → Int32) (a2 : Int32) (a3 : Int32) (post : (Nat → Int32) → Prop) (h : wX0_keepLeast f a2 a3 post) : Met l yX0_keepLeast wsX0_keepLeast (rmm 0 0) (wPc g (E5 aK aV) ((wA16 g a) f) sz [.ref a, .int a2, .int a3]) (va_Qv (fun (u : (Nat → Int32)) => post u) (wB g (wA16 g a) (va_A ((wA16 g a) f) sz)) (va_A ((wA16 g a) f) sz)) 0 0 (va_A ((wA16 g a) f) sz) := by
  refine mstart (Qf := fun A => va_Qv (fun (u : (Nat → Int32)) => post u) (wB g (wA16 g a) A) A) (by decide) rfl (Nat.le_of_ble_eq_true rfl) ?_
  intro p e s m args below meth c A Q H locs ls hC hr hlocks hname hQ hA hK hE hw hl
  have hC : CallFix p m c cX0_keepLeast 3 s args wsX0_keepLeast RX0 := hC
  obtain ⟨hx, hb, -, hown, hts⟩ := id hC
  have hl : lv_has ls 3 [(0, .ref a), (1, .int a2), (2, .int a3)] := hl
  rw [wX0_keepLeast] at h
  refine lv_aload_n hx hb dX0_keepLeast_0 rfl (lv_at hl 0 rfl) ?_
  refine lv_iload_n hx hb dX0_keepLeast_1 rfl (lv_at hl 1 rfl) ?_
  obtain ⟨hi, h⟩ := h
  refine va_iald hx hb hK hw.1 0 0 rfl rfl hi dX0_keepLeast_2 ?_
  obtain ⟨J1, hJ2, h⟩ := h
  have join3 : ∀  (H : Heap) (locs : List Loc) (ls : Array Slot), J1 () → Wd g.1 A s.heap ((wA16 g a) f) H locs → lv_has ls 3 [(0, .ref a), (1, .int a2), (2, .int a3)] → W p l e (rmm 0 0) s m args below meth c H locs 0 0 Q (F0 m 13 ls []) := by
    intro  H locs ls h hw hl
    replace h := hJ2 () h
    refine lv_aload_n hx hb dX0_keepLeast_13 rfl (lv_at hl 0 rfl) ?_
    refine lv_iload_n hx hb dX0_keepLeast_14 rfl (lv_at hl 1 rfl) ?_
    refine lv_iload_n hx hb dX0_keepLeast_15 rfl (lv_at hl 2 rfl) ?_
    obtain ⟨hi, h⟩ := h
    obtain ⟨f4, ef4⟩ : ∃ z, z = upd f a2.toNatClampNeg a3 := ⟨_, rfl⟩
    replace h := h f4 ef4
    refine va_iast hx hb hK hw.1 hw.2.1 hw.2.2 0 0 rfl rfl hi dX0_keepLeast_16 (fun H locs hP hD hS => ?_)
    replace hw : Wd g.1 A s.heap ((wA16 g a) f4) H locs := by rw [ef4]; exact ⟨hP, hD, hS⟩
    rw [hQ]
    exact mretv (w := (wA16 g a)) (u := f4) hC hr hlocks hK hw h dX0_keepLeast_17
  refine lv_if_lt (tgt := 13) hx hb dX0_keepLeast_3 (by decide) (fun c6 => ?_) (fun c6 => ?_)
  · replace h := h.1 c6
    exact join3  _ _ _ h hw (lv_sub hl [0, 1, 2] rfl)
  · replace h := h.2 c6
    refine lv_iload_n hx hb dX0_keepLeast_6 rfl (lv_at hl 2 rfl) ?_
    refine lv_aload_n hx hb dX0_keepLeast_7 rfl (lv_at hl 0 rfl) ?_
    refine lv_iload_n hx hb dX0_keepLeast_8 rfl (lv_at hl 1 rfl) ?_
    obtain ⟨hi, h⟩ := h
    refine va_iald hx hb hK hw.1 0 0 rfl rfl hi dX0_keepLeast_9 ?_
    refine lv_icmp_ge (tgt := 17) hx hb dX0_keepLeast_10 (by decide) (fun c5 => ?_) (fun c5 => ?_)
    · replace h := h.1 c5
      rw [hQ]
      exact mretv (w := (wA16 g a)) (u := f) hC hr hlocks hK hw h dX0_keepLeast_17
    · replace h := h.2 c5
      exact join3  _ _ _ h hw (lv_sub hl [0, 1, 2] rfl)
def wX0_keep (S : Bun) (a1 : Int32) (a2 : Int32) (post : Bun → Prop) : Prop :=
  wjoin (σ := Unit) (fun _ => wjoin (σ := Bun) (fun S4 => ∀ S8 : Bun, S8 = up S4 0 6 ((S4 0 6) + (1 : Int32)) → vp_in (0 : Int32) 16 ∧ wX0_keepLeast (S8 10) (S8 14 (0 : Int32).toNatClampNeg) a2 (fun f11 => ∀ S12 : Bun, S12 = va_up S8 10 f11 → wX0_keepLeast (S12 11) a1 a2 (fun f15 => ∀ S16 : Bun, S16 = va_up S12 11 f15 → post S16))) (fun J5 => wjoin (σ := Unit) (fun _ => ∀ S20 : Bun, S20 = up S 0 7 a2 → ∀ S21 : Bun, S21 = va_up S20 9 (va_cpy (S20 14) (S20 9) (0 : Int32).toNatClampNeg (0 : Int32).toNatClampNeg (16 : Int32).toNatClampNeg) → J5 S21) (fun J17 => (((S 0 6) = 0 → J17 ()) ∧ (¬ ((S 0 6) = 0) → (((S 0 7) ≤ a2 → J5 S) ∧ (¬ ((S 0 7) ≤ a2) → J17 ()))))))) (fun J1 => (((S 0 4) < 0 → J1 ()) ∧ (¬ ((S 0 4) < 0) → ((a1 = (S 0 4) → J1 ()) ∧ (¬ (a1 = (S 0 4)) → post S)))))
set_option maxRecDepth 100000 in
set_option maxHeartbeats 4000000 in
theorem kX0_keep (l : Launch) (g : Gl) (aK : Nat → Nat) (aV : Nat → Nat) (q : Nat → Nat) (sz : Nat) (S : Bun) (a1 : Int32) (a2 : Int32) (post : Bun → Prop) (h : wX0_keep S a1 a2 post) : Met l yX0_keep wsX0_keep (rmm 1 64) (wPc g (E5 aK aV) ((wF g q) S) sz [.ref (q 0), .int a1, .int a2]) (va_Qv (fun (u : Bun) => post u) (wB g (wF g q) (va_A ((wF g q) S) sz)) (va_A ((wF g q) S) sz)) 0 0 (va_A ((wF g q) S) sz) := by
  refine mstart (Qf := fun A => va_Qv (fun (u : Bun) => post u) (wB g (wF g q) A) A) (by decide) rfl (Nat.le_of_ble_eq_true rfl) ?_
  intro p e s m args below meth c A Q H locs ls hC hr hlocks hname hQ hA hK hE hw hl
  have hC : CallFix p m c cX0_keep 3 s args wsX0_keep RX0 := hC
  obtain ⟨hx, hb, -, hown, hts⟩ := id hC
  have hl : lv_has ls 3 [(0, .ref (q 0)), (1, .int a1), (2, .int a2)] := hl
  rw [wX0_keep] at h
  have hinX0 : ∀ w ∈ wsX00, w ∈ wsX0_keep := fun w hw9 => List.mem_cons_of_mem _ (List.mem_append_right _ hw9)
  refine lv_aload_n hx hb dX0_keep_0 rfl (lv_at hl 0 rfl) ?_
  refine F_fg4 hC hinX0 hK hw (List.mem_of_getElem? (i := 1) rfl) dX0_keep_1 ?_
  obtain ⟨J1, hJ2, h⟩ := h
  have join3 : ∀  (H : Heap) (locs : List Loc) (ls : Array Slot), J1 () → Wd g.1 A s.heap ((wF g q) S) H locs → lv_has ls 3 [(0, .ref (q 0)), (1, .int a1), (2, .int a2)] → W p l e (rmm 1 64) s m args below meth c H locs 0 0 Q (F0 m 16 ls []) := by
    intro  H locs ls h hw hl
    replace h := hJ2 () h
    refine lv_aload_n hx hb dX0_keep_16 rfl (lv_at hl 0 rfl) ?_
    refine F_fg6 hC hinX0 hK hw (List.mem_of_getElem? (i := 2) rfl) dX0_keep_17 ?_
    obtain ⟨J5, hJ6, h⟩ := h
    have join7 : ∀ (S4 : Bun) (H : Heap) (locs : List Loc) (ls : Array Slot), J5 S4 → Wd g.1 A s.heap ((wF g q) S4) H locs → lv_has ls 3 [(0, .ref (q 0)), (1, .int a1), (2, .int a2)] → W p l e (rmm 1 64) s m args below meth c H locs 0 0 Q (F0 m 51 ls []) := by
      intro S4 H locs ls h hw hl
      replace h := hJ6 S4 h
      refine lv_aload_n hx hb dX0_keep_51 rfl (lv_at hl 0 rfl) ?_
      refine lv_dup hx hb dX0_keep_52 rfl ?_
      refine F_fg6 hC hinX0 hK hw (List.mem_of_getElem? (i := 2) rfl) dX0_keep_53 ?_
      refine lv_iconst (v := (1 : Int32)) hx hb dX0_keep_56 (by decide) ?_
      refine lv_iadd hx hb dX0_keep_57 ?_
      refine F_fp6 hC hinX0 hK hw (List.mem_of_getElem? (i := 2) rfl) dX0_keep_58 (fun S8 H locs eS8 hw => ?_)
      replace h := h S8 eS8
      refine lv_aload_n hx hb dX0_keep_61 rfl (lv_at hl 0 rfl) ?_
      refine F_fg9 hC hinX0 hK hw (List.mem_of_getElem? (i := 10) rfl) dX0_keep_62 ?_
      refine lv_aload_n hx hb dX0_keep_65 rfl (lv_at hl 0 rfl) ?_
      refine F_fg13 hC hinX0 hK hw (List.mem_of_getElem? (i := 4) rfl) dX0_keep_66 ?_
      refine lv_iconst (v := (0 : Int32)) hx hb dX0_keep_69 (by decide) ?_
      obtain ⟨hi, h⟩ := h
      refine F_fl13 hC hK hw hi dX0_keep_70 ?_
      refine lv_iload_n hx hb dX0_keep_71 rfl (lv_at hl 2 rfl) ?_
      refine mcallv (w1 := (fun f9 => (wF g q) (va_up S8 10 f9))) (va_runS (As := [.ref (q 10), .int (S8 14 (0 : Int32).toNatClampNeg), .int a2]) (rest := []) hC (kX0_keepLeast l g aK aV (q 10) H.size (S8 10) (S8 14 (0 : Int32).toNatClampNeg) a2 _ h) (va_cwS 3 hts gX0_keep_X0_keepLeast rfl rfl rfl (by decide +kernel) ⟨Nat.le_of_ble_eq_true rfl, Nat.le_of_ble_eq_true rfl⟩) (mpre (E5_ok aK aV) hK hE hA hw (F_af9_1 g)) rfl rfl hl.1 rfl (lv_room (Nat.le_of_ble_eq_true rfl)) dX0_keep_72 ⟨Nat.zero_le _, Nat.zero_le _⟩) hA hw (F_af9_1 g) (fun f9 => F_af9 g f9) (fun u10 H locs h hw => ?_)
      obtain ⟨f11, rfl⟩ : ∃ z, z = u10 := ⟨_, rfl⟩
      obtain ⟨S12, eS12⟩ : ∃ z, z = va_up S8 10 f11 := ⟨_, rfl⟩
      replace h := h S12 eS12
      replace hw : Wd g.1 A s.heap ((wF g q) S12) H locs := by rw [eS12]; exact hw
      refine lv_aload_n hx hb dX0_keep_75 rfl (lv_at hl 0 rfl) ?_
      refine F_fg10 hC hinX0 hK hw (List.mem_of_getElem? (i := 11) rfl) dX0_keep_76 ?_
      refine lv_iload_n hx hb dX0_keep_79 rfl (lv_at hl 1 rfl) ?_
      refine lv_iload_n hx hb dX0_keep_80 rfl (lv_at hl 2 rfl) ?_
      refine mcallv (w1 := (fun f9 => (wF g q) (va_up S12 11 f9))) (va_runS (As := [.ref (q 11), .int a1, .int a2]) (rest := []) hC (kX0_keepLeast l g aK aV (q 11) H.size (S12 11) a1 a2 _ h) (va_cwS 3 hts gX0_keep_X0_keepLeast rfl rfl rfl (by decide +kernel) ⟨Nat.le_of_ble_eq_true rfl, Nat.le_of_ble_eq_true rfl⟩) (mpre (E5_ok aK aV) hK hE hA hw (F_af10_1 g)) rfl rfl hl.1 rfl (lv_room (Nat.le_of_ble_eq_true rfl)) dX0_keep_81 ⟨Nat.zero_le _, Nat.zero_le _⟩) hA hw (F_af10_1 g) (fun f9 => F_af10 g f9) (fun u14 H locs h hw => ?_)
      obtain ⟨f15, rfl⟩ : ∃ z, z = u14 := ⟨_, rfl⟩
      obtain ⟨S16, eS16⟩ : ∃ z, z = va_up S12 11 f15 := ⟨_, rfl⟩
      replace h := h S16 eS16
      replace hw : Wd g.1 A s.heap ((wF g q) S16) H locs := by rw [eS16]; exact hw
      rw [hQ]
      exact mretv (w := (wF g q)) (u := S16) hC hr hlocks hK hw h dX0_keep_84
    obtain ⟨J17, hJ18, h⟩ := h
    have join19 : ∀  (H : Heap) (locs : List Loc) (ls : Array Slot), J17 () → Wd g.1 A s.heap ((wF g q) S) H locs → lv_has ls 3 [(0, .ref (q 0)), (1, .int a1), (2, .int a2)] → W p l e (rmm 1 64) s m args below meth c H locs 0 0 Q (F0 m 31 ls []) := by
      intro  H locs ls h hw hl
      replace h := hJ18 () h
      refine lv_aload_n hx hb dX0_keep_31 rfl (lv_at hl 0 rfl) ?_
      refine lv_iload_n hx hb dX0_keep_32 rfl (lv_at hl 2 rfl) ?_
      refine F_fp7 hC hinX0 hK hw (List.mem_of_getElem? (i := 3) rfl) dX0_keep_33 (fun S20 H locs eS20 hw => ?_)
      replace h := h S20 eS20
      refine lv_aload_n hx hb dX0_keep_36 rfl (lv_at hl 0 rfl) ?_
      refine F_fg13 hC hinX0 hK hw (List.mem_of_getElem? (i := 4) rfl) dX0_keep_37 ?_
      refine lv_iconst (v := (0 : Int32)) hx hb dX0_keep_40 (by decide) ?_
      refine lv_aload_n hx hb dX0_keep_41 rfl (lv_at hl 0 rfl) ?_
      refine F_fg8 hC hinX0 hK hw (List.mem_of_getElem? (i := 5) rfl) dX0_keep_42 ?_
      refine lv_iconst (v := (0 : Int32)) hx hb dX0_keep_45 (by decide) ?_
      refine lv_bipush (v := (16 : Int32)) hx hb dX0_keep_46 (by decide) ?_
      obtain ⟨S21, eS21⟩ : ∃ z, z = va_up S20 9 (va_cpy (S20 14) (S20 9) (0 : Int32).toNatClampNeg (0 : Int32).toNatClampNeg (16 : Int32).toNatClampNeg) := ⟨_, rfl⟩
      replace h := h S21 eS21
      refine va_copyi hx hb (hC.2.2.1.trans hl.1.symm) hown (hts (.methodLink RX0 110 arraycopyName) (List.mem_of_getElem? (i := 6) rfl)) (hts (.native arraycopyName) (List.mem_of_getElem? (i := 7) rfl)) (hts (.static arraycopyName) (List.mem_of_getElem? (i := 8) rfl)) (hts (.initialized "java/lang/System") (List.mem_of_getElem? (i := 9) rfl)) hK hw.1 hw.2.1 hw.2.2 4 1 0 0 rfl rfl rfl rfl rfl (by decide) (by decide) (by decide) (by decide) (by decide) (fun _ _ => rfl) (Nat.le_of_ble_eq_true rfl) (Nat.le_of_ble_eq_true rfl) dX0_keep_48 (fun H locs hP hD hS => ?_)
      replace hw : Wd g.1 A s.heap ((wF g q) S21) H locs := by rw [eS21]; exact ⟨hP, hD, hS⟩
      exact join7 S21 _ _ _ h hw (lv_sub hl [0, 1, 2] rfl)
    refine lv_if_eq (tgt := 31) hx hb dX0_keep_20 (by decide) (fun c23 => ?_) (fun c23 => ?_)
    · replace h := h.1 c23
      exact join19  _ _ _ h hw (lv_sub hl [0, 1, 2] rfl)
    · replace h := h.2 c23
      refine lv_iload_n hx hb dX0_keep_23 rfl (lv_at hl 2 rfl) ?_
      refine lv_aload_n hx hb dX0_keep_24 rfl (lv_at hl 0 rfl) ?_
      refine F_fg7 hC hinX0 hK hw (List.mem_of_getElem? (i := 3) rfl) dX0_keep_25 ?_
      refine lv_icmp_ge (tgt := 51) hx hb dX0_keep_28 (by decide) (fun c22 => ?_) (fun c22 => ?_)
      · replace h := h.1 c22
        exact join7 S _ _ _ h hw (lv_sub hl [0, 1, 2] rfl)
      · replace h := h.2 c22
        exact join19  _ _ _ h hw (lv_sub hl [0, 1, 2] rfl)
  refine lv_if_lt (tgt := 16) hx hb dX0_keep_4 (by decide) (fun c25 => ?_) (fun c25 => ?_)
  · replace h := h.1 c25
    exact join3  _ _ _ h hw (lv_sub hl [0, 1, 2] rfl)
  · replace h := h.2 c25
    refine lv_iload_n hx hb dX0_keep_7 rfl (lv_at hl 1 rfl) ?_
    refine lv_aload_n hx hb dX0_keep_8 rfl (lv_at hl 0 rfl) ?_
    refine F_fg4 hC hinX0 hK hw (List.mem_of_getElem? (i := 1) rfl) dX0_keep_9 ?_
    refine lv_icmp_eq (tgt := 16) hx hb dX0_keep_12 (by decide) (fun c24 => ?_) (fun c24 => ?_)
    · replace h := h.1 c24
      exact join3  _ _ _ h hw (lv_sub hl [0, 1, 2] rfl)
    · replace h := h.2 c24
      rw [hQ]
      exact mretv (w := (wF g q)) (u := S) hC hr hlocks hK hw h dX0_keep_15
def wX0_isHopeless (S : Bun) (a1 : Int32) (a2 : Int32) (post : Int32 → Prop) : Prop :=
  ∀ x1 : Int32, x1 = a2 ||| ((1 : Int32) <<< (a1 &&& 31)) → ∀ x2 : Int32, x2 = x1 <<< ((4 : Int32) &&& 31) → ∀ x3 : Int32, x3 = x1 >>> ((4 : Int32) &&& 31) → ∀ x4 : Int32, x4 = (x1 &&& (30583 : Int32)) <<< ((1 : Int32) &&& 31) → ∀ x5 : Int32, x5 = (x1 &&& (61166 : Int32)) >>> ((1 : Int32) &&& 31) → ∀ x6 : Int32, x6 = ((x2 ||| x3) ||| x4) ||| x5 → ∀ x7 : Int32, x7 = ((x2 &&& x3) ||| (x4 &&& x5)) ||| ((x2 ||| x3) &&& (x4 ||| x5)) → ∀ x8 : Int32, x8 = a2 &&& (x7 ^^^ (-1 : Int32)) → (((a2 &&& (x6 ^^^ (-1 : Int32))) = 0 → (((x8 &&& (x8 - (1 : Int32))) = 0 → (((S 0 4) < 0 → post (0 : Int32)) ∧ (¬ ((S 0 4) < 0) → wX5_holds a2 (S 0 4) (fun r9 => ((r9 = 0 → post (1 : Int32)) ∧ (¬ (r9 = 0) → (((x8 &&& (((1 : Int32) <<< ((S 0 4) &&& 31)) ^^^ (-1 : Int32))) = 0 → post (0 : Int32)) ∧ (¬ ((x8 &&& (((1 : Int32) <<< ((S 0 4) &&& 31)) ^^^ (-1 : Int32))) = 0) → post (1 : Int32))))))))) ∧ (¬ ((x8 &&& (x8 - (1 : Int32))) = 0) → post (1 : Int32)))) ∧ (¬ ((a2 &&& (x6 ^^^ (-1 : Int32))) = 0) → post (1 : Int32)))
set_option maxRecDepth 100000 in
set_option maxHeartbeats 4000000 in
theorem kX0_isHopeless (l : Launch) (g : Gl) (aK : Nat → Nat) (aV : Nat → Nat) (q : Nat → Nat) (sz : Nat) (S : Bun) (a1 : Int32) (a2 : Int32) (post : Int32 → Prop) (h : wX0_isHopeless S a1 a2 post) : Met l yX0_isHopeless wsX0_isHopeless (rmm 1 21) (wPc g (E5 aK aV) ((wF g q) S) sz [.ref (q 0), .int a1, .int a2]) (va_Qi (fun (r : Int32) (u : Bun) => u = S ∧ post r) (wB g (wF g q) (va_A ((wF g q) S) sz)) (va_A ((wF g q) S) sz)) 0 0 (va_A ((wF g q) S) sz) := by
  refine mstart (Qf := fun A => va_Qi (fun (r : Int32) (u : Bun) => u = S ∧ post r) (wB g (wF g q) A) A) (by decide) rfl (Nat.le_of_ble_eq_true rfl) ?_
  intro p e s m args below meth c A Q H locs ls hC hr hlocks hname hQ hA hK hE hw hl
  have hC : CallFix p m c cX0_isHopeless 11 s args wsX0_isHopeless RX0 := hC
  obtain ⟨hx, hb, -, hown, hts⟩ := id hC
  have hl : lv_has ls 11 [(0, .ref (q 0)), (1, .int a1), (2, .int a2)] := hl
  rw [wX0_isHopeless] at h
  have hinX0 : ∀ w ∈ wsX00, w ∈ wsX0_isHopeless := fun w hw9 => List.mem_cons_of_mem _ (List.mem_append_right _ hw9)
  refine lv_iload_n hx hb dX0_isHopeless_0 rfl (lv_at hl 2 rfl) ?_
  refine lv_iconst (v := (1 : Int32)) hx hb dX0_isHopeless_1 (by decide) ?_
  refine lv_iload_n hx hb dX0_isHopeless_2 rfl (lv_at hl 1 rfl) ?_
  refine lv_ishl hx hb dX0_isHopeless_3 ?_
  refine lv_ior hx hb dX0_isHopeless_4 ?_
  refine lv_topi (fun x1 ex1 => ?_)
  replace h := h x1 ex1
  refine lv_istore_n (lv' := [(3, .int x1), (0, .ref (q 0)), (1, .int a1), (2, .int a2)]) hx hb dX0_isHopeless_5 rfl hl (by decide) rfl (fun ls hl => ?_)
  refine lv_iload_n hx hb dX0_isHopeless_6 rfl (lv_at hl 0 rfl) ?_
  refine lv_iconst (v := (4 : Int32)) hx hb dX0_isHopeless_7 (by decide) ?_
  refine lv_ishl hx hb dX0_isHopeless_8 ?_
  refine lv_topi (fun x2 ex2 => ?_)
  replace h := h x2 ex2
  refine lv_istore (lv' := [(4, .int x2), (3, .int x1), (0, .ref (q 0)), (1, .int a1), (2, .int a2)]) hx hb dX0_isHopeless_9 hl (by decide) rfl (fun ls hl => ?_)
  refine lv_iload_n hx hb dX0_isHopeless_11 rfl (lv_at hl 1 rfl) ?_
  refine lv_iconst (v := (4 : Int32)) hx hb dX0_isHopeless_12 (by decide) ?_
  refine lv_ishr hx hb dX0_isHopeless_13 ?_
  refine lv_topi (fun x3 ex3 => ?_)
  replace h := h x3 ex3
  refine lv_istore (lv' := [(5, .int x3), (4, .int x2), (3, .int x1), (0, .ref (q 0)), (1, .int a1), (2, .int a2)]) hx hb dX0_isHopeless_14 hl (by decide) rfl (fun ls hl => ?_)
  refine lv_iload_n hx hb dX0_isHopeless_16 rfl (lv_at hl 2 rfl) ?_
  refine lv_sipush (v := (30583 : Int32)) hx hb dX0_isHopeless_17 (by decide) ?_
  refine lv_iand hx hb dX0_isHopeless_20 ?_
  refine lv_iconst (v := (1 : Int32)) hx hb dX0_isHopeless_21 (by decide) ?_
  refine lv_ishl hx hb dX0_isHopeless_22 ?_
  refine lv_topi (fun x4 ex4 => ?_)
  replace h := h x4 ex4
  refine lv_istore (lv' := [(6, .int x4), (5, .int x3), (4, .int x2), (3, .int x1), (0, .ref (q 0)), (1, .int a1), (2, .int a2)]) hx hb dX0_isHopeless_23 hl (by decide) rfl (fun ls hl => ?_)
  refine lv_iload_n hx hb dX0_isHopeless_25 rfl (lv_at hl 3 rfl) ?_
  refine lv_ldc (v := (61166 : Int32)) hx hb hown (hts (.constant RX0 120 (61166)) (List.mem_of_getElem? (i := 1) rfl)) dX0_isHopeless_26 ?_
  refine lv_iand hx hb dX0_isHopeless_28 ?_
  refine lv_iconst (v := (1 : Int32)) hx hb dX0_isHopeless_29 (by decide) ?_
  refine lv_ishr hx hb dX0_isHopeless_30 ?_
  refine lv_topi (fun x5 ex5 => ?_)
  replace h := h x5 ex5
  refine lv_istore (lv' := [(7, .int x5), (6, .int x4), (5, .int x3), (4, .int x2), (3, .int x1), (0, .ref (q 0)), (1, .int a1), (2, .int a2)]) hx hb dX0_isHopeless_31 hl (by decide) rfl (fun ls hl => ?_)
  refine lv_iload hx hb dX0_isHopeless_33 (lv_at hl 3 rfl) ?_
  refine lv_iload hx hb dX0_isHopeless_35 (lv_at hl 2 rfl) ?_
  refine lv_ior hx hb dX0_isHopeless_37 ?_
  refine lv_iload hx hb dX0_isHopeless_38 (lv_at hl 1 rfl) ?_
  refine lv_ior hx hb dX0_isHopeless_40 ?_
  refine lv_iload hx hb dX0_isHopeless_41 (lv_at hl 0 rfl) ?_
  refine lv_ior hx hb dX0_isHopeless_43 ?_
  refine lv_topi (fun x6 ex6 => ?_)
  replace h := h x6 ex6
  refine lv_istore (lv' := [(8, .int x6), (7, .int x5), (6, .int x4), (5, .int x3), (4, .int x2), (3, .int x1), (0, .ref (q 0)), (1, .int a1), (2, .int a2)]) hx hb dX0_isHopeless_44 hl (by decide) rfl (fun ls hl => ?_)
  refine lv_iload hx hb dX0_isHopeless_46 (lv_at hl 4 rfl) ?_
  refine lv_iload hx hb dX0_isHopeless_48 (lv_at hl 3 rfl) ?_
  refine lv_iand hx hb dX0_isHopeless_50 ?_
  refine lv_iload hx hb dX0_isHopeless_51 (lv_at hl 2 rfl) ?_
  refine lv_iload hx hb dX0_isHopeless_53 (lv_at hl 1 rfl) ?_
  refine lv_iand hx hb dX0_isHopeless_55 ?_
  refine lv_ior hx hb dX0_isHopeless_56 ?_
  refine lv_iload hx hb dX0_isHopeless_57 (lv_at hl 4 rfl) ?_
  refine lv_iload hx hb dX0_isHopeless_59 (lv_at hl 3 rfl) ?_
  refine lv_ior hx hb dX0_isHopeless_61 ?_
  refine lv_iload hx hb dX0_isHopeless_62 (lv_at hl 2 rfl) ?_
  refine lv_iload hx hb dX0_isHopeless_64 (lv_at hl 1 rfl) ?_
  refine lv_ior hx hb dX0_isHopeless_66 ?_
  refine lv_iand hx hb dX0_isHopeless_67 ?_
  refine lv_ior hx hb dX0_isHopeless_68 ?_
  refine lv_topi (fun x7 ex7 => ?_)
  replace h := h x7 ex7
  refine lv_istore (lv' := [(9, .int x7), (8, .int x6), (7, .int x5), (6, .int x4), (5, .int x3), (4, .int x2), (3, .int x1), (0, .ref (q 0)), (1, .int a1), (2, .int a2)]) hx hb dX0_isHopeless_69 hl (by decide) rfl (fun ls hl => ?_)
  refine lv_iload_n hx hb dX0_isHopeless_71 rfl (lv_at hl 9 rfl) ?_
  refine lv_iload hx hb dX0_isHopeless_72 (lv_at hl 0 rfl) ?_
  refine lv_iconst (v := (-1 : Int32)) hx hb dX0_isHopeless_74 (by decide) ?_
  refine lv_ixor hx hb dX0_isHopeless_75 ?_
  refine lv_iand hx hb dX0_isHopeless_76 ?_
  refine lv_topi (fun x8 ex8 => ?_)
  replace h := h x8 ex8
  refine lv_istore (lv' := [(10, .int x8), (9, .int x7), (8, .int x6), (7, .int x5), (6, .int x4), (5, .int x3), (4, .int x2), (3, .int x1), (0, .ref (q 0)), (1, .int a1), (2, .int a2)]) hx hb dX0_isHopeless_77 hl (by decide) rfl (fun ls hl => ?_)
  refine lv_iload_n hx hb dX0_isHopeless_79 rfl (lv_at hl 10 rfl) ?_
  refine lv_iload hx hb dX0_isHopeless_80 (lv_at hl 2 rfl) ?_
  refine lv_iconst (v := (-1 : Int32)) hx hb dX0_isHopeless_82 (by decide) ?_
  refine lv_ixor hx hb dX0_isHopeless_83 ?_
  refine lv_iand hx hb dX0_isHopeless_84 ?_
  refine lv_if_ne (tgt := 98) hx hb dX0_isHopeless_85 (by decide) (fun c15 => ?_) (fun c15 => ?_)
  · replace h := h.2 c15
    refine lv_iconst (v := (1 : Int32)) hx hb dX0_isHopeless_98 (by decide) ?_
    rw [hQ]
    exact mretz (w := (wF g q)) (u := S) hC hr hlocks hK hw (Or.inr rfl) ⟨rfl, h⟩ dX0_isHopeless_99
  · replace h := h.1 c15
    refine lv_iload hx hb dX0_isHopeless_88 (lv_at hl 0 rfl) ?_
    refine lv_iload hx hb dX0_isHopeless_90 (lv_at hl 0 rfl) ?_
    refine lv_iconst (v := (1 : Int32)) hx hb dX0_isHopeless_92 (by decide) ?_
    refine lv_isub hx hb dX0_isHopeless_93 ?_
    refine lv_iand hx hb dX0_isHopeless_94 ?_
    refine lv_if_eq (tgt := 100) hx hb dX0_isHopeless_95 (by decide) (fun c14 => ?_) (fun c14 => ?_)
    · replace h := h.1 c14
      refine lv_aload_n hx hb dX0_isHopeless_100 rfl (lv_at hl 8 rfl) ?_
      refine F_fg4 hC hinX0 hK hw (List.mem_of_getElem? (i := 2) rfl) dX0_isHopeless_101 ?_
      refine lv_if_lt (tgt := 136) hx hb dX0_isHopeless_104 (by decide) (fun c13 => ?_) (fun c13 => ?_)
      · replace h := h.1 c13
        refine lv_iconst (v := (0 : Int32)) hx hb dX0_isHopeless_136 (by decide) ?_
        rw [hQ]
        exact mretz (w := (wF g q)) (u := S) hC hr hlocks hK hw (Or.inl rfl) ⟨rfl, h⟩ dX0_isHopeless_137
      · replace h := h.2 c13
        refine lv_iload_n hx hb dX0_isHopeless_107 rfl (lv_at hl 10 rfl) ?_
        refine lv_aload_n hx hb dX0_isHopeless_108 rfl (lv_at hl 8 rfl) ?_
        refine F_fg4 hC hinX0 hK hw (List.mem_of_getElem? (i := 2) rfl) dX0_isHopeless_109 ?_
        refine mcalli (w1 := (fun _ => (wF g q) S)) (wc := fun _ : Unit => ([] : va_W)) (u := ()) (va_runSN (As := [.int a2, .int (S 0 4)]) (rest := []) hC (kX5_holds l g aK aV H.size a2 (S 0 4) _ h) ⟨va_cnB 2 hts gX0_isHopeless_X5_holds_n86 rfl rfl rfl hE.nMX0_86 (hts (.initialized RX5) (List.mem_of_getElem? (i := 4) rfl)) (by decide +kernel) ⟨Nat.le_of_ble_eq_true rfl, Nat.le_of_ble_eq_true rfl⟩, (hts (.static yX5_holds) (List.mem_of_getElem? (i := 3) rfl)), trivial⟩ (mpre (E5_ok aK aV) hK hE hA hw (Sub1.nil _)) rfl rfl hl.1 rfl (lv_room (Nat.le_of_ble_eq_true rfl)) dX0_isHopeless_112 ⟨Nat.zero_le _, Nat.zero_le _⟩) hA hw (Sub1.nil _) (fun _ => Sub.nil _) (fun r9 u10 H locs h hw => ?_)
        obtain ⟨_, h⟩ := h
        refine lv_if_eq (tgt := 132) hx hb dX0_isHopeless_115 (by decide) (fun c12 => ?_) (fun c12 => ?_)
        · replace h := h.1 c12
          refine lv_iconst (v := (1 : Int32)) hx hb dX0_isHopeless_132 (by decide) ?_
          refine lv_goto (tgt := 137) hx hb dX0_isHopeless_133 (by decide) ?_
          rw [hQ]
          exact mretz (w := (wF g q)) (u := S) hC hr hlocks hK hw (Or.inr rfl) ⟨rfl, h⟩ dX0_isHopeless_137
        · replace h := h.2 c12
          refine lv_iload hx hb dX0_isHopeless_118 (lv_at hl 0 rfl) ?_
          refine lv_iconst (v := (1 : Int32)) hx hb dX0_isHopeless_120 (by decide) ?_
          refine lv_aload_n hx hb dX0_isHopeless_121 rfl (lv_at hl 8 rfl) ?_
          refine F_fg4 hC hinX0 hK hw (List.mem_of_getElem? (i := 2) rfl) dX0_isHopeless_122 ?_
          refine lv_ishl hx hb dX0_isHopeless_125 ?_
          refine lv_iconst (v := (-1 : Int32)) hx hb dX0_isHopeless_126 (by decide) ?_
          refine lv_ixor hx hb dX0_isHopeless_127 ?_
          refine lv_iand hx hb dX0_isHopeless_128 ?_
          refine lv_if_eq (tgt := 136) hx hb dX0_isHopeless_129 (by decide) (fun c11 => ?_) (fun c11 => ?_)
          · replace h := h.1 c11
            refine lv_iconst (v := (0 : Int32)) hx hb dX0_isHopeless_136 (by decide) ?_
            rw [hQ]
            exact mretz (w := (wF g q)) (u := S) hC hr hlocks hK hw (Or.inl rfl) ⟨rfl, h⟩ dX0_isHopeless_137
          · replace h := h.2 c11
            refine lv_iconst (v := (1 : Int32)) hx hb dX0_isHopeless_132 (by decide) ?_
            refine lv_goto (tgt := 137) hx hb dX0_isHopeless_133 (by decide) ?_
            rw [hQ]
            exact mretz (w := (wF g q)) (u := S) hC hr hlocks hK hw (Or.inr rfl) ⟨rfl, h⟩ dX0_isHopeless_137
    · replace h := h.2 c14
      refine lv_iconst (v := (1 : Int32)) hx hb dX0_isHopeless_98 (by decide) ?_
      rw [hQ]
      exact mretz (w := (wF g q)) (u := S) hC hr hlocks hK hw (Or.inr rfl) ⟨rfl, h⟩ dX0_isHopeless_99
def wX5_cellTowards  (a1 : Int32) (a2 : Int32) (post : Int32 → Prop) : Prop :=
  ∀ x1 : Int32, x1 = a2 → ((x1 = (0 : Int32) → ((a1 < (4 : Int32) → post (-1 : Int32)) ∧ (¬ (a1 < (4 : Int32)) → post (a1 - (4 : Int32))))) ∧ (x1 = (1 : Int32) → (((3 : Int32) ≤ (a1 &&& (3 : Int32)) → post (-1 : Int32)) ∧ (¬ ((3 : Int32) ≤ (a1 &&& (3 : Int32))) → post (a1 + (1 : Int32))))) ∧ (x1 = (2 : Int32) → (((12 : Int32) ≤ a1 → post (-1 : Int32)) ∧ (¬ ((12 : Int32) ≤ a1) → post (a1 + (4 : Int32))))) ∧ ((x1.toInt < 0 ∨ 2 < x1.toInt) → (((a1 &&& (3 : Int32)) ≤ 0 → post (-1 : Int32)) ∧ (¬ ((a1 &&& (3 : Int32)) ≤ 0) → post (a1 - (1 : Int32))))))
set_option maxRecDepth 100000 in
set_option maxHeartbeats 4000000 in
theorem kX5_cellTowards (l : Launch) (g : Gl) (aK : Nat → Nat) (aV : Nat → Nat)  (sz : Nat)  (a1 : Int32) (a2 : Int32) (post : Int32 → Prop) (h : wX5_cellTowards  a1 a2 post) : Met l yX5_cellTowards wsX5_cellTowards (rmm 0 0) (wPc g (E5 aK aV) (([] : va_W)) sz [.int a1, .int a2]) (va_Qi (fun (r : Int32) (u : Unit) => u = () ∧ post r) (wB g (fun _ : Unit => ([] : va_W)) (va_A (([] : va_W)) sz)) (va_A (([] : va_W)) sz)) 0 0 (va_A (([] : va_W)) sz) := by
  refine mstart (Qf := fun A => va_Qi (fun (r : Int32) (u : Unit) => u = () ∧ post r) (wB g (fun _ : Unit => ([] : va_W)) A) A) (by decide) rfl (Nat.le_of_ble_eq_true rfl) ?_
  intro p e s m args below meth c A Q H locs ls hC hr hlocks hname hQ hA hK hE hw hl
  have hC : CallFix p m c cX5_cellTowards 2 s args wsX5_cellTowards RX5 := hC
  obtain ⟨hx, hb, -, hown, hts⟩ := id hC
  have hl : lv_has ls 2 [(0, .int a1), (1, .int a2)] := hl
  rw [wX5_cellTowards] at h
  refine lv_iload_n hx hb dX5_cellTowards_0 rfl (lv_at hl 1 rfl) ?_
  refine lv_topi (fun x1 ex1 => ?_)
  replace h := h x1 ex1
  rcases sw0_2 x1 with c2 | c2 | c2 | c2
  · replace h := h.1 c2
    rw [c2]
    refine lv_tableIn (tgt := 28) (off := 27) hx hb dX5_cellTowards_1 (by decide) (by decide) rfl (by decide) ?_
    refine lv_iload_n hx hb dX5_cellTowards_28 rfl (lv_at hl 0 rfl) ?_
    refine lv_iconst (v := (4 : Int32)) hx hb dX5_cellTowards_29 (by decide) ?_
    refine lv_icmp_lt (tgt := 39) hx hb dX5_cellTowards_30 (by decide) (fun c3 => ?_) (fun c3 => ?_)
    · replace h := h.1 c3
      refine lv_iconst (v := (-1 : Int32)) hx hb dX5_cellTowards_39 (by decide) ?_
      rw [hQ]
      exact mreti (w := (fun _ : Unit => ([] : va_W))) (u := ()) hC hr hlocks hK hw ⟨rfl, h⟩ dX5_cellTowards_40
    · replace h := h.2 c3
      refine lv_iload_n hx hb dX5_cellTowards_33 rfl (lv_at hl 0 rfl) ?_
      refine lv_iconst (v := (4 : Int32)) hx hb dX5_cellTowards_34 (by decide) ?_
      refine lv_isub hx hb dX5_cellTowards_35 ?_
      refine lv_goto (tgt := 40) hx hb dX5_cellTowards_36 (by decide) ?_
      rw [hQ]
      exact mreti (w := (fun _ : Unit => ([] : va_W))) (u := ()) hC hr hlocks hK hw ⟨rfl, h⟩ dX5_cellTowards_40
  · replace h := h.2.1 c2
    rw [c2]
    refine lv_tableIn (tgt := 41) (off := 40) hx hb dX5_cellTowards_1 (by decide) (by decide) rfl (by decide) ?_
    refine lv_iload_n hx hb dX5_cellTowards_41 rfl (lv_at hl 0 rfl) ?_
    refine lv_iconst (v := (3 : Int32)) hx hb dX5_cellTowards_42 (by decide) ?_
    refine lv_iand hx hb dX5_cellTowards_43 ?_
    refine lv_iconst (v := (3 : Int32)) hx hb dX5_cellTowards_44 (by decide) ?_
    refine lv_icmp_ge (tgt := 54) hx hb dX5_cellTowards_45 (by decide) (fun c4 => ?_) (fun c4 => ?_)
    · replace h := h.1 c4
      refine lv_iconst (v := (-1 : Int32)) hx hb dX5_cellTowards_54 (by decide) ?_
      rw [hQ]
      exact mreti (w := (fun _ : Unit => ([] : va_W))) (u := ()) hC hr hlocks hK hw ⟨rfl, h⟩ dX5_cellTowards_55
    · replace h := h.2 c4
      refine lv_iload_n hx hb dX5_cellTowards_48 rfl (lv_at hl 0 rfl) ?_
      refine lv_iconst (v := (1 : Int32)) hx hb dX5_cellTowards_49 (by decide) ?_
      refine lv_iadd hx hb dX5_cellTowards_50 ?_
      refine lv_goto (tgt := 55) hx hb dX5_cellTowards_51 (by decide) ?_
      rw [hQ]
      exact mreti (w := (fun _ : Unit => ([] : va_W))) (u := ()) hC hr hlocks hK hw ⟨rfl, h⟩ dX5_cellTowards_55
  · replace h := h.2.2.1 c2
    rw [c2]
    refine lv_tableIn (tgt := 56) (off := 55) hx hb dX5_cellTowards_1 (by decide) (by decide) rfl (by decide) ?_
    refine lv_iload_n hx hb dX5_cellTowards_56 rfl (lv_at hl 0 rfl) ?_
    refine lv_bipush (v := (12 : Int32)) hx hb dX5_cellTowards_57 (by decide) ?_
    refine lv_icmp_ge (tgt := 68) hx hb dX5_cellTowards_59 (by decide) (fun c5 => ?_) (fun c5 => ?_)
    · replace h := h.1 c5
      refine lv_iconst (v := (-1 : Int32)) hx hb dX5_cellTowards_68 (by decide) ?_
      rw [hQ]
      exact mreti (w := (fun _ : Unit => ([] : va_W))) (u := ()) hC hr hlocks hK hw ⟨rfl, h⟩ dX5_cellTowards_69
    · replace h := h.2 c5
      refine lv_iload_n hx hb dX5_cellTowards_62 rfl (lv_at hl 0 rfl) ?_
      refine lv_iconst (v := (4 : Int32)) hx hb dX5_cellTowards_63 (by decide) ?_
      refine lv_iadd hx hb dX5_cellTowards_64 ?_
      refine lv_goto (tgt := 69) hx hb dX5_cellTowards_65 (by decide) ?_
      rw [hQ]
      exact mreti (w := (fun _ : Unit => ([] : va_W))) (u := ()) hC hr hlocks hK hw ⟨rfl, h⟩ dX5_cellTowards_69
  · replace h := h.2.2.2 c2
    refine lv_tableOut (tgt := 70) hx hb dX5_cellTowards_1 c2 (by decide) ?_
    refine lv_iload_n hx hb dX5_cellTowards_70 rfl (lv_at hl 0 rfl) ?_
    refine lv_iconst (v := (3 : Int32)) hx hb dX5_cellTowards_71 (by decide) ?_
    refine lv_iand hx hb dX5_cellTowards_72 ?_
    refine lv_if_le (tgt := 82) hx hb dX5_cellTowards_73 (by decide) (fun c6 => ?_) (fun c6 => ?_)
    · replace h := h.1 c6
      refine lv_iconst (v := (-1 : Int32)) hx hb dX5_cellTowards_82 (by decide) ?_
      rw [hQ]
      exact mreti (w := (fun _ : Unit => ([] : va_W))) (u := ()) hC hr hlocks hK hw ⟨rfl, h⟩ dX5_cellTowards_83
    · replace h := h.2 c6
      refine lv_iload_n hx hb dX5_cellTowards_76 rfl (lv_at hl 0 rfl) ?_
      refine lv_iconst (v := (1 : Int32)) hx hb dX5_cellTowards_77 (by decide) ?_
      refine lv_isub hx hb dX5_cellTowards_78 ?_
      refine lv_goto (tgt := 83) hx hb dX5_cellTowards_79 (by decide) ?_
      rw [hQ]
      exact mreti (w := (fun _ : Unit => ([] : va_W))) (u := ()) hC hr hlocks hK hw ⟨rfl, h⟩ dX5_cellTowards_83
def wX5_isTurn  (a1 : Int32) (a2 : Int32) (post : Int32 → Prop) : Prop :=
  ((a1 < 0 → post (0 : Int32)) ∧ (¬ (a1 < 0) → ((a1 = a2 → post (0 : Int32)) ∧ (¬ (a1 = a2) → post (1 : Int32)))))
set_option maxRecDepth 100000 in
set_option maxHeartbeats 4000000 in
theorem kX5_isTurn (l : Launch) (g : Gl) (aK : Nat → Nat) (aV : Nat → Nat)  (sz : Nat)  (a1 : Int32) (a2 : Int32) (post : Int32 → Prop) (h : wX5_isTurn  a1 a2 post) : Met l yX5_isTurn wsX5_isTurn (rmm 0 0) (wPc g (E5 aK aV) (([] : va_W)) sz [.int a1, .int a2]) (va_Qi (fun (r : Int32) (u : Unit) => u = () ∧ post r) (wB g (fun _ : Unit => ([] : va_W)) (va_A (([] : va_W)) sz)) (va_A (([] : va_W)) sz)) 0 0 (va_A (([] : va_W)) sz) := by
  refine mstart (Qf := fun A => va_Qi (fun (r : Int32) (u : Unit) => u = () ∧ post r) (wB g (fun _ : Unit => ([] : va_W)) A) A) (by decide) rfl (Nat.le_of_ble_eq_true rfl) ?_
  intro p e s m args below meth c A Q H locs ls hC hr hlocks hname hQ hA hK hE hw hl
  have hC : CallFix p m c cX5_isTurn 2 s args wsX5_isTurn RX5 := hC
  obtain ⟨hx, hb, -, hown, hts⟩ := id hC
  have hl : lv_has ls 2 [(0, .int a1), (1, .int a2)] := hl
  rw [wX5_isTurn] at h
  refine lv_iload_n hx hb dX5_isTurn_0 rfl (lv_at hl 0 rfl) ?_
  refine lv_if_lt (tgt := 13) hx hb dX5_isTurn_1 (by decide) (fun c2 => ?_) (fun c2 => ?_)
  · replace h := h.1 c2
    refine lv_iconst (v := (0 : Int32)) hx hb dX5_isTurn_13 (by decide) ?_
    rw [hQ]
    exact mretz (w := (fun _ : Unit => ([] : va_W))) (u := ()) hC hr hlocks hK hw (Or.inl rfl) ⟨rfl, h⟩ dX5_isTurn_14
  · replace h := h.2 c2
    refine lv_iload_n hx hb dX5_isTurn_4 rfl (lv_at hl 0 rfl) ?_
    refine lv_iload_n hx hb dX5_isTurn_5 rfl (lv_at hl 1 rfl) ?_
    refine lv_icmp_eq (tgt := 13) hx hb dX5_isTurn_6 (by decide) (fun c1 => ?_) (fun c1 => ?_)
    · replace h := h.1 c1
      refine lv_iconst (v := (0 : Int32)) hx hb dX5_isTurn_13 (by decide) ?_
      rw [hQ]
      exact mretz (w := (fun _ : Unit => ([] : va_W))) (u := ()) hC hr hlocks hK hw (Or.inl rfl) ⟨rfl, h⟩ dX5_isTurn_14
    · replace h := h.2 c1
      refine lv_iconst (v := (1 : Int32)) hx hb dX5_isTurn_9 (by decide) ?_
      refine lv_goto (tgt := 14) hx hb dX5_isTurn_10 (by decide) ?_
      rw [hQ]
      exact mretz (w := (fun _ : Unit => ([] : va_W))) (u := ()) hC hr hlocks hK hw (Or.inr rfl) ⟨rfl, h⟩ dX5_isTurn_14
def wX5_mayStep  (a1 : Int32) (a2 : Int32) (a3 : Int32) (a4 : Int32) (a5 : Int32) (a6 : Int32) (post : Int32 → Prop) : Prop :=
  wX5_isTurn a4 a5 (fun r1 => wjoin (σ := Unit) (fun _ => wX5_holds a2 a3 (fun r6 => ((r6 = 0 → post (1 : Int32)) ∧ (¬ (r6 = 0) → wX5_isOfKind a1 (4 : Int32) (fun r8 => ((r8 = 0 → post (1 : Int32)) ∧ (¬ (r8 = 0) → post (0 : Int32)))))))) (fun J3 => ((r1 = 0 → J3 ()) ∧ (¬ (r1 = 0) → ∀ x12 : Int32, x12 = (a5 - a4) &&& (3 : Int32) → wjoin (σ := Unit) (fun _ => wjoin (σ := Unit) (fun _ => ((a6 = 0 → J3 ()) ∧ (¬ (a6 = 0) → wX5_isOfKind a1 (3 : Int32) (fun r19 => ((r19 = 0 → J3 ()) ∧ (¬ (r19 = 0) → post (0 : Int32))))))) (fun J16 => ((x12 = (3 : Int32) → wX5_isOfKind a1 (2 : Int32) (fun r23 => ((r23 = 0 → J16 ()) ∧ (¬ (r23 = 0) → post (0 : Int32))))) ∧ (¬ (x12 = (3 : Int32)) → J16 ())))) (fun J13 => ((x12 = (1 : Int32) → wX5_isOfKind a1 (1 : Int32) (fun r27 => ((r27 = 0 → J13 ()) ∧ (¬ (r27 = 0) → post (0 : Int32))))) ∧ (¬ (x12 = (1 : Int32)) → J13 ())))))))
set_option maxRecDepth 100000 in
set_option maxHeartbeats 4000000 in
theorem kX5_mayStep (l : Launch) (g : Gl) (aK : Nat → Nat) (aV : Nat → Nat)  (sz : Nat)  (a1 : Int32) (a2 : Int32) (a3 : Int32) (a4 : Int32) (a5 : Int32) (a6 : Int32) (post : Int32 → Prop) (h : wX5_mayStep  a1 a2 a3 a4 a5 a6 post) : Met l yX5_mayStep wsX5_mayStep (rmm 1 21) (wPc g (E5 aK aV) (([] : va_W)) sz [.int a1, .int a2, .int a3, .int a4, .int a5, .int a6]) (va_Qi (fun (r : Int32) (u : Unit) => u = () ∧ post r) (wB g (fun _ : Unit => ([] : va_W)) (va_A (([] : va_W)) sz)) (va_A (([] : va_W)) sz)) 0 0 (va_A (([] : va_W)) sz) := by
  refine mstart (Qf := fun A => va_Qi (fun (r : Int32) (u : Unit) => u = () ∧ post r) (wB g (fun _ : Unit => ([] : va_W)) A) A) (by decide) rfl (Nat.le_of_ble_eq_true rfl) ?_
  intro p e s m args below meth c A Q H locs ls hC hr hlocks hname hQ hA hK hE hw hl
  have hC : CallFix p m c cX5_mayStep 7 s args wsX5_mayStep RX5 := hC
  obtain ⟨hx, hb, -, hown, hts⟩ := id hC
  have hl : lv_has ls 7 [(0, .int a1), (1, .int a2), (2, .int a3), (3, .int a4), (4, .int a5), (5, .int a6)] := hl
  rw [wX5_mayStep] at h
  refine lv_iload_n hx hb dX5_mayStep_0 rfl (lv_at hl 3 rfl) ?_
  refine lv_iload hx hb dX5_mayStep_1 (lv_at hl 4 rfl) ?_
  refine mcalli (w1 := (fun _ => ([] : va_W))) (wc := fun _ : Unit => ([] : va_W)) (u := ()) (va_runS (As := [.int a4, .int a5]) (rest := []) hC (kX5_isTurn l g aK aV H.size a4 a5 _ h) (va_cwS 2 hts gX5_mayStep_X5_isTurn rfl rfl rfl (by decide +kernel) ⟨Nat.le_of_ble_eq_true rfl, Nat.le_of_ble_eq_true rfl⟩) (mpre (E5_ok aK aV) hK hE hA hw (Sub1.nil _)) rfl rfl hl.1 rfl (lv_room (Nat.le_of_ble_eq_true rfl)) dX5_mayStep_3 ⟨Nat.zero_le _, Nat.zero_le _⟩) hA hw (Sub1.nil _) (fun _ => Sub.nil _) (fun r1 u2 H locs h hw => ?_)
  obtain ⟨_, h⟩ := h
  obtain ⟨J3, hJ4, h⟩ := h
  have join5 : ∀  (H : Heap) (locs : List Loc) (ls : Array Slot), J3 () → Wd g.1 A s.heap (([] : va_W)) H locs → lv_has ls 7 [(0, .int a1), (1, .int a2), (2, .int a3)] → W p l e (rmm 1 21) s m args below meth c H locs 0 0 Q (F0 m 64 ls []) := by
    intro  H locs ls h hw hl
    replace h := hJ4 () h
    refine lv_iload_n hx hb dX5_mayStep_64 rfl (lv_at hl 1 rfl) ?_
    refine lv_iload_n hx hb dX5_mayStep_65 rfl (lv_at hl 2 rfl) ?_
    refine mcalli (w1 := (fun _ => ([] : va_W))) (wc := fun _ : Unit => ([] : va_W)) (u := ()) (va_runS (As := [.int a2, .int a3]) (rest := []) hC (kX5_holds l g aK aV H.size a2 a3 _ h) (va_cwS 2 hts gX5_mayStep_X5_holds rfl rfl rfl (by decide +kernel) ⟨Nat.le_of_ble_eq_true rfl, Nat.le_of_ble_eq_true rfl⟩) (mpre (E5_ok aK aV) hK hE hA hw (Sub1.nil _)) rfl rfl hl.1 rfl (lv_room (Nat.le_of_ble_eq_true rfl)) dX5_mayStep_66 ⟨Nat.zero_le _, Nat.zero_le _⟩) hA hw (Sub1.nil _) (fun _ => Sub.nil _) (fun r6 u7 H locs h hw => ?_)
    obtain ⟨_, h⟩ := h
    refine lv_if_eq (tgt := 80) hx hb dX5_mayStep_69 (by decide) (fun c11 => ?_) (fun c11 => ?_)
    · replace h := h.1 c11
      refine lv_iconst (v := (1 : Int32)) hx hb dX5_mayStep_80 (by decide) ?_
      refine lv_goto (tgt := 85) hx hb dX5_mayStep_81 (by decide) ?_
      rw [hQ]
      exact mretz (w := (fun _ : Unit => ([] : va_W))) (u := ()) hC hr hlocks hK hw (Or.inr rfl) ⟨rfl, h⟩ dX5_mayStep_85
    · replace h := h.2 c11
      refine lv_iload_n hx hb dX5_mayStep_72 rfl (lv_at hl 0 rfl) ?_
      refine lv_iconst (v := (4 : Int32)) hx hb dX5_mayStep_73 (by decide) ?_
      refine mcalli (w1 := (fun _ => ([] : va_W))) (wc := fun _ : Unit => ([] : va_W)) (u := ()) (va_runS (As := [.int a1, .int (4 : Int32)]) (rest := []) hC (kX5_isOfKind l g aK aV H.size a1 (4 : Int32) _ h) (va_cwS 2 hts gX5_mayStep_X5_isOfKind rfl rfl rfl (by decide +kernel) ⟨Nat.le_of_ble_eq_true rfl, Nat.le_of_ble_eq_true rfl⟩) (mpre (E5_ok aK aV) hK hE hA hw (Sub1.nil _)) rfl rfl hl.1 rfl (lv_room (Nat.le_of_ble_eq_true rfl)) dX5_mayStep_74 ⟨Nat.zero_le _, Nat.zero_le _⟩) hA hw (Sub1.nil _) (fun _ => Sub.nil _) (fun r8 u9 H locs h hw => ?_)
      obtain ⟨_, h⟩ := h
      refine lv_if_ne (tgt := 84) hx hb dX5_mayStep_77 (by decide) (fun c10 => ?_) (fun c10 => ?_)
      · replace h := h.2 c10
        refine lv_iconst (v := (0 : Int32)) hx hb dX5_mayStep_84 (by decide) ?_
        rw [hQ]
        exact mretz (w := (fun _ : Unit => ([] : va_W))) (u := ()) hC hr hlocks hK hw (Or.inl rfl) ⟨rfl, h⟩ dX5_mayStep_85
      · replace h := h.1 c10
        refine lv_iconst (v := (1 : Int32)) hx hb dX5_mayStep_80 (by decide) ?_
        refine lv_goto (tgt := 85) hx hb dX5_mayStep_81 (by decide) ?_
        rw [hQ]
        exact mretz (w := (fun _ : Unit => ([] : va_W))) (u := ()) hC hr hlocks hK hw (Or.inr rfl) ⟨rfl, h⟩ dX5_mayStep_85
  refine lv_if_eq (tgt := 64) hx hb dX5_mayStep_6 (by decide) (fun c31 => ?_) (fun c31 => ?_)
  · replace h := h.1 c31
    exact join5  _ _ _ h hw (lv_sub hl [0, 1, 2] rfl)
  · replace h := h.2 c31
    refine lv_iload hx hb dX5_mayStep_9 (lv_at hl 4 rfl) ?_
    refine lv_iload_n hx hb dX5_mayStep_11 rfl (lv_at hl 3 rfl) ?_
    refine lv_isub hx hb dX5_mayStep_12 ?_
    refine lv_iconst (v := (3 : Int32)) hx hb dX5_mayStep_13 (by decide) ?_
    refine lv_iand hx hb dX5_mayStep_14 ?_
    refine lv_topi (fun x12 ex12 => ?_)
    replace h := h x12 ex12
    refine lv_istore (lv' := [(6, .int x12), (0, .int a1), (1, .int a2), (2, .int a3), (3, .int a4), (4, .int a5), (5, .int a6)]) hx hb dX5_mayStep_15 hl (by decide) rfl (fun ls hl => ?_)
    refine lv_iload hx hb dX5_mayStep_17 (lv_at hl 0 rfl) ?_
    refine lv_iconst (v := (1 : Int32)) hx hb dX5_mayStep_19 (by decide) ?_
    obtain ⟨J13, hJ14, h⟩ := h
    have join15 : ∀  (H : Heap) (locs : List Loc) (ls : Array Slot), J13 () → Wd g.1 A s.heap (([] : va_W)) H locs → lv_has ls 7 [(0, .int a1), (1, .int a2), (2, .int a3), (5, .int a6), (6, .int x12)] → W p l e (rmm 1 21) s m args below meth c H locs 0 0 Q (F0 m 33 ls []) := by
      intro  H locs ls h hw hl
      replace h := hJ14 () h
      refine lv_iload hx hb dX5_mayStep_33 (lv_at hl 4 rfl) ?_
      refine lv_iconst (v := (3 : Int32)) hx hb dX5_mayStep_35 (by decide) ?_
      obtain ⟨J16, hJ17, h⟩ := h
      have join18 : ∀  (H : Heap) (locs : List Loc) (ls : Array Slot), J16 () → Wd g.1 A s.heap (([] : va_W)) H locs → lv_has ls 7 [(0, .int a1), (1, .int a2), (2, .int a3), (5, .int a6)] → W p l e (rmm 1 21) s m args below meth c H locs 0 0 Q (F0 m 49 ls []) := by
        intro  H locs ls h hw hl
        replace h := hJ17 () h
        refine lv_iload hx hb dX5_mayStep_49 (lv_at hl 3 rfl) ?_
        refine lv_if_eq (tgt := 64) hx hb dX5_mayStep_51 (by decide) (fun c22 => ?_) (fun c22 => ?_)
        · replace h := h.1 c22
          exact join5  _ _ _ h hw (lv_sub hl [0, 1, 2] rfl)
        · replace h := h.2 c22
          refine lv_iload_n hx hb dX5_mayStep_54 rfl (lv_at hl 0 rfl) ?_
          refine lv_iconst (v := (3 : Int32)) hx hb dX5_mayStep_55 (by decide) ?_
          refine mcalli (w1 := (fun _ => ([] : va_W))) (wc := fun _ : Unit => ([] : va_W)) (u := ()) (va_runS (As := [.int a1, .int (3 : Int32)]) (rest := []) hC (kX5_isOfKind l g aK aV H.size a1 (3 : Int32) _ h) (va_cwS 2 hts gX5_mayStep_X5_isOfKind rfl rfl rfl (by decide +kernel) ⟨Nat.le_of_ble_eq_true rfl, Nat.le_of_ble_eq_true rfl⟩) (mpre (E5_ok aK aV) hK hE hA hw (Sub1.nil _)) rfl rfl hl.1 rfl (lv_room (Nat.le_of_ble_eq_true rfl)) dX5_mayStep_56 ⟨Nat.zero_le _, Nat.zero_le _⟩) hA hw (Sub1.nil _) (fun _ => Sub.nil _) (fun r19 u20 H locs h hw => ?_)
          obtain ⟨_, h⟩ := h
          refine lv_if_eq (tgt := 64) hx hb dX5_mayStep_59 (by decide) (fun c21 => ?_) (fun c21 => ?_)
          · replace h := h.1 c21
            exact join5  _ _ _ h hw (lv_sub hl [0, 1, 2] rfl)
          · replace h := h.2 c21
            refine lv_iconst (v := (0 : Int32)) hx hb dX5_mayStep_62 (by decide) ?_
            rw [hQ]
            exact mretz (w := (fun _ : Unit => ([] : va_W))) (u := ()) hC hr hlocks hK hw (Or.inl rfl) ⟨rfl, h⟩ dX5_mayStep_63
      refine lv_icmp_ne (tgt := 49) hx hb dX5_mayStep_36 (by decide) (fun c26 => ?_) (fun c26 => ?_)
      · replace h := h.2 c26
        exact join18  _ _ _ h hw (lv_sub hl [0, 1, 2, 3] rfl)
      · replace h := h.1 c26
        refine lv_iload_n hx hb dX5_mayStep_39 rfl (lv_at hl 0 rfl) ?_
        refine lv_iconst (v := (2 : Int32)) hx hb dX5_mayStep_40 (by decide) ?_
        refine mcalli (w1 := (fun _ => ([] : va_W))) (wc := fun _ : Unit => ([] : va_W)) (u := ()) (va_runS (As := [.int a1, .int (2 : Int32)]) (rest := []) hC (kX5_isOfKind l g aK aV H.size a1 (2 : Int32) _ h) (va_cwS 2 hts gX5_mayStep_X5_isOfKind rfl rfl rfl (by decide +kernel) ⟨Nat.le_of_ble_eq_true rfl, Nat.le_of_ble_eq_true rfl⟩) (mpre (E5_ok aK aV) hK hE hA hw (Sub1.nil _)) rfl rfl hl.1 rfl (lv_room (Nat.le_of_ble_eq_true rfl)) dX5_mayStep_41 ⟨Nat.zero_le _, Nat.zero_le _⟩) hA hw (Sub1.nil _) (fun _ => Sub.nil _) (fun r23 u24 H locs h hw => ?_)
        obtain ⟨_, h⟩ := h
        refine lv_if_eq (tgt := 49) hx hb dX5_mayStep_44 (by decide) (fun c25 => ?_) (fun c25 => ?_)
        · replace h := h.1 c25
          exact join18  _ _ _ h hw (lv_sub hl [0, 1, 2, 3] rfl)
        · replace h := h.2 c25
          refine lv_iconst (v := (0 : Int32)) hx hb dX5_mayStep_47 (by decide) ?_
          rw [hQ]
          exact mretz (w := (fun _ : Unit => ([] : va_W))) (u := ()) hC hr hlocks hK hw (Or.inl rfl) ⟨rfl, h⟩ dX5_mayStep_48
    refine lv_icmp_ne (tgt := 33) hx hb dX5_mayStep_20 (by decide) (fun c30 => ?_) (fun c30 => ?_)
    · replace h := h.2 c30
      exact join15  _ _ _ h hw (lv_sub hl [1, 2, 3, 6, 0] rfl)
    · replace h := h.1 c30
      refine lv_iload_n hx hb dX5_mayStep_23 rfl (lv_at hl 1 rfl) ?_
      refine lv_iconst (v := (1 : Int32)) hx hb dX5_mayStep_24 (by decide) ?_
      refine mcalli (w1 := (fun _ => ([] : va_W))) (wc := fun _ : Unit => ([] : va_W)) (u := ()) (va_runS (As := [.int a1, .int (1 : Int32)]) (rest := []) hC (kX5_isOfKind l g aK aV H.size a1 (1 : Int32) _ h) (va_cwS 2 hts gX5_mayStep_X5_isOfKind rfl rfl rfl (by decide +kernel) ⟨Nat.le_of_ble_eq_true rfl, Nat.le_of_ble_eq_true rfl⟩) (mpre (E5_ok aK aV) hK hE hA hw (Sub1.nil _)) rfl rfl hl.1 rfl (lv_room (Nat.le_of_ble_eq_true rfl)) dX5_mayStep_25 ⟨Nat.zero_le _, Nat.zero_le _⟩) hA hw (Sub1.nil _) (fun _ => Sub.nil _) (fun r27 u28 H locs h hw => ?_)
      obtain ⟨_, h⟩ := h
      refine lv_if_eq (tgt := 33) hx hb dX5_mayStep_28 (by decide) (fun c29 => ?_) (fun c29 => ?_)
      · replace h := h.1 c29
        exact join15  _ _ _ h hw (lv_sub hl [1, 2, 3, 6, 0] rfl)
      · replace h := h.2 c29
        refine lv_iconst (v := (0 : Int32)) hx hb dX5_mayStep_31 (by decide) ?_
        rw [hQ]
        exact mretz (w := (fun _ : Unit => ([] : va_W))) (u := ()) hC hr hlocks hK hw (Or.inl rfl) ⟨rfl, h⟩ dX5_mayStep_32
def wX0_plough : Nat → Bun → Int32 → Int32 → Int32 → Int32 → Int32 → Int32 → (Bun → Prop) → Prop
  | 0 => fun _ _ _ _ _ _ _ _ => False
  | d + 1 => fun S a1 a2 a3 a4 a5 a6 post => ((a3 = 0 → wX0_keep S a2 a6 (fun S46 => post S46)) ∧ (¬ (a3 = 0) → (((16 : Int32) ≤ a1 → post S) ∧ (¬ ((16 : Int32) ≤ a1) → wX0_isHopeless S a2 a3 (fun r1 => ((r1 = 0 → wloop (σ := Int32 × Bun) (fun K5 z => match z with | (x3, S4) => (((4 : Int32) ≤ x3 → post S4) ∧ (¬ ((4 : Int32) ≤ x3) → vp_in x3 4 ∧ ∀ x12 : Int32, x12 = tbBy x3.toNatClampNeg → wX5_cellTowards a2 x12 (fun r13 => ((r13 < 0 → ∀ x15 : Int32, x15 = x3 + (1 : Int32) → K5 (x15, S4)) ∧ (¬ (r13 < 0) → wX5_holds a3 r13 (fun r17 => ((r17 = 0 → ∀ x37 : Int32, x37 = x3 + (1 : Int32) → K5 (x37, S4)) ∧ (¬ (r17 = 0) → wX5_mayStep (S4 0 0) (S4 0 2) r13 a4 x12 a5 (fun r19 => ((r19 = 0 → ∀ x21 : Int32, x21 = x3 + (1 : Int32) → K5 (x21, S4)) ∧ (¬ (r19 = 0) → wX5_isTurn a4 x12 (fun r23 => vp_in a1 16 ∧ ∀ S25 : Bun, S25 = up S4 14 a1.toNatClampNeg r13 → wjoin (σ := Int32) (fun y26 => wX0_plough d S25 (a1 + (1 : Int32)) r13 (a3 &&& (((1 : Int32) <<< (r13 &&& 31)) ^^^ (-1 : Int32))) x12 r23 y26 (fun S32 => ∀ x33 : Int32, x33 = x3 + (1 : Int32) → K5 (x33, S32))) (fun J27 => ((r23 = 0 → J27 a6) ∧ (¬ (r23 = 0) → J27 (a6 + (1 : Int32)))))))))))))))))) ((0 : Int32), S)) ∧ (¬ (r1 = 0) → post S)))))))
set_option maxRecDepth 100000 in
set_option maxHeartbeats 4000000 in
theorem kX0_plough (l : Launch) (g : Gl) (aK : Nat → Nat) (aV : Nat → Nat) (q : Nat → Nat) (d : Nat) : ∀ (sz : Nat) (S : Bun) (a1 : Int32) (a2 : Int32) (a3 : Int32) (a4 : Int32) (a5 : Int32) (a6 : Int32) (post : Bun → Prop), wX0_plough d S a1 a2 a3 a4 a5 a6 post → Met l yX0_plough wsX0_plough (rmm (d + 2) (d * 30 + 86)) (wPc g (E5 aK aV) ((wF g q) S) sz [.ref (q 0), .int a1, .int a2, .int a3, .int a4, .int a5, .int a6]) (va_Qv (fun (u : Bun) => post u) (wB g (wF g q) (va_A ((wF g q) S) sz)) (va_A ((wF g q) S) sz)) 0 0 (va_A ((wF g q) S) sz) := by
  induction d with
  | zero => intro sz S a1 a2 a3 a4 a5 a6 post h; exact absurd h (fun z => z)
  | succ d ihd =>
  intro sz S a1 a2 a3 a4 a5 a6 post h
  refine mstart (Qf := fun A => va_Qv (fun (u : Bun) => post u) (wB g (wF g q) A) A) (by decide) rfl (Nat.le_of_ble_eq_true rfl) ?_
  intro p e s m args below meth c A Q H locs ls hC hr hlocks hname hQ hA hK hE hw hl
  have hC : CallFix p m c cX0_plough 11 s args wsX0_plough RX0 := hC
  obtain ⟨hx, hb, -, hown, hts⟩ := id hC
  have hl : lv_has ls 11 [(0, .ref (q 0)), (1, .int a1), (2, .int a2), (3, .int a3), (4, .int a4), (5, .int a5), (6, .int a6)] := hl
  rw [wX0_plough] at h
  have hinX0 : ∀ w ∈ wsX00, w ∈ wsX0_plough := fun w hw9 => List.mem_cons_of_mem _ (List.mem_append_right _ hw9)
  refine lv_iload_n hx hb dX0_plough_0 rfl (lv_at hl 3 rfl) ?_
  refine lv_if_ne (tgt := 12) hx hb dX0_plough_1 (by decide) (fun c47 => ?_) (fun c47 => ?_)
  · replace h := h.2 c47
    refine lv_iload_n hx hb dX0_plough_12 rfl (lv_at hl 1 rfl) ?_
    refine lv_bipush (v := (16 : Int32)) hx hb dX0_plough_13 (by decide) ?_
    refine lv_icmp_ge (tgt := 27) hx hb dX0_plough_15 (by decide) (fun c43 => ?_) (fun c43 => ?_)
    · replace h := h.1 c43
      rw [hQ]
      exact mretv (w := (wF g q)) (u := S) hC hr hlocks hK hw h dX0_plough_27
    · replace h := h.2 c43
      refine lv_aload_n hx hb dX0_plough_18 rfl (lv_at hl 0 rfl) ?_
      refine lv_iload_n hx hb dX0_plough_19 rfl (lv_at hl 2 rfl) ?_
      refine lv_iload_n hx hb dX0_plough_20 rfl (lv_at hl 3 rfl) ?_
      refine mcalli (w1 := (wF g q)) (va_runV (As := [.int a2, .int a3]) (rest := []) hC (kX0_isHopeless l g aK aV q H.size S a2 a3 _ h) (cwV 2 hts gX0_plough_X0_isHopeless rfl rfl rfl (by decide +kernel) ⟨by simp only [rmm]; omega, by simp only [rmm]; omega⟩) (mpreV (E5_ok aK aV) hK hE hA hw (Sub1.refl _) 0 rfl rfl) rfl rfl hl.1 rfl (lv_room (Nat.le_of_ble_eq_true rfl)) dX0_plough_21 ⟨Nat.zero_le _, Nat.zero_le _⟩) hA hw (Sub1.refl _) (fun _ => Sub.whole rfl) (fun r1 u2 H locs h hw => ?_)
      obtain ⟨hu, h⟩ := h
      replace hu := hu.symm
      subst hu
      refine lv_if_eq (tgt := 28) hx hb dX0_plough_24 (by decide) (fun c42 => ?_) (fun c42 => ?_)
      · replace h := h.1 c42
        refine lv_iconst (v := (0 : Int32)) hx hb dX0_plough_28 (by decide) ?_
        refine lv_istore (lv' := [(7, .int (0 : Int32)), (0, .ref (q 0)), (1, .int a1), (2, .int a2), (3, .int a3), (4, .int a4), (5, .int a5), (6, .int a6)]) hx hb dX0_plough_29 hl (by decide) rfl (fun ls hl => ?_)
        refine h (fun z => match z with | (x3, S4) => ∀ (H : Heap) (locs : List Loc) (ls : Array Slot), Wd g.1 A s.heap ((wF g q) S4) H locs → lv_has ls 11 [(0, .ref (q 0)), (1, .int a1), (2, .int a2), (3, .int a3), (4, .int a4), (5, .int a5), (6, .int a6), (7, .int x3)] → W p l e (rmm (d + 1 + 2) ((d + 1) * 30 + 86)) s m args below meth c H locs 0 0 Q (F0 m 31 ls [])) ?_ _ _ _ hw (lv_sub hl [1, 2, 3, 4, 5, 6, 7, 0] rfl)
        clear h hw hl
        rintro ⟨x3, S4⟩ h H locs ls hw hl
        refine lv_iload hx hb dX0_plough_31 (lv_at hl 7 rfl) ?_
        refine lv_iconst (v := (4 : Int32)) hx hb dX0_plough_33 (by decide) ?_
        refine lv_icmp_ge (tgt := 150) hx hb dX0_plough_34 (by decide) (fun c41 => ?_) (fun c41 => ?_)
        · replace h := h.1 c41
          rw [hQ]
          exact mretv (w := (wF g q)) (u := S4) hC hr hlocks hK hw h dX0_plough_150
        · replace h := h.2 c41
          obtain ⟨t11, hZt11, hTt11⟩ := hE.tbBy
          refine va_gets hx hb hZt11 hw.2.2 hown (hts (.fieldLink RX0 96 "OneFurrow$Furrows" "BY_CELL" "[I") (List.mem_of_getElem? (i := 1) rfl)) (fun _ h9 => h9) dX0_plough_37 ?_
          refine lv_iload hx hb dX0_plough_40 (lv_at hl 7 rfl) ?_
          obtain ⟨hi, h⟩ := h
          refine va_ti hx hb hTt11 hw.2.2 hi rfl dX0_plough_42 ?_
          refine lv_topi (fun x12 ex12 => ?_)
          replace h := h x12 ex12
          refine lv_istore (lv' := [(8, .int x12), (0, .ref (q 0)), (1, .int a1), (2, .int a2), (3, .int a3), (4, .int a4), (5, .int a5), (6, .int a6), (7, .int x3)]) hx hb dX0_plough_43 hl (by decide) rfl (fun ls hl => ?_)
          refine lv_iload_n hx hb dX0_plough_45 rfl (lv_at hl 3 rfl) ?_
          refine lv_iload hx hb dX0_plough_46 (lv_at hl 0 rfl) ?_
          refine mcalli (w1 := (fun _ => (wF g q) S4)) (wc := fun _ : Unit => ([] : va_W)) (u := ()) (va_runSN (As := [.int a2, .int x12]) (rest := []) hC (kX5_cellTowards l g aK aV H.size a2 x12 _ h) ⟨va_cnB 2 hts gX0_plough_X5_cellTowards_n99 rfl rfl rfl hE.nMX0_99 (hts (.initialized RX5) (List.mem_of_getElem? (i := 29) rfl)) (by decide +kernel) ⟨by simp only [rmm]; omega, by simp only [rmm]; omega⟩, (hts (.static yX5_cellTowards) (List.mem_of_getElem? (i := 31) rfl)), trivial⟩ (mpre (E5_ok aK aV) hK hE hA hw (Sub1.nil _)) rfl rfl hl.1 rfl (lv_room (Nat.le_of_ble_eq_true rfl)) dX0_plough_48 ⟨Nat.zero_le _, Nat.zero_le _⟩) hA hw (Sub1.nil _) (fun _ => Sub.nil _) (fun r13 u14 H locs h hw => ?_)
          obtain ⟨_, h⟩ := h
          refine lv_istore (lv' := [(9, .int r13), (8, .int x12), (0, .ref (q 0)), (1, .int a1), (2, .int a2), (3, .int a3), (4, .int a4), (5, .int a5), (6, .int a6), (7, .int x3)]) hx hb dX0_plough_51 hl (by decide) rfl (fun ls hl => ?_)
          refine lv_iload hx hb dX0_plough_53 (lv_at hl 0 rfl) ?_
          refine lv_if_lt (tgt := 144) hx hb dX0_plough_55 (by decide) (fun c40 => ?_) (fun c40 => ?_)
          · replace h := h.1 c40
            obtain ⟨x15, ex15⟩ : ∃ y : Int32, y = x3 + (1 : Int32) := ⟨_, rfl⟩
            refine lv_iinc (v := x15) (lv' := [(7, .int x15), (9, .int r13), (8, .int x12), (0, .ref (q 0)), (1, .int a1), (2, .int a2), (3, .int a3), (4, .int a4), (5, .int a5), (6, .int a6)]) hx hb dX0_plough_144 hl (k := 9) rfl (by rw [ex15]; rfl) (by decide) rfl (fun ls hl => ?_)
            replace h := h x15 ex15
            refine lv_goto (tgt := 31) hx hb dX0_plough_147 (by decide) ?_
            exact h _ _ _ hw (lv_sub hl [3, 4, 5, 6, 7, 8, 9, 0] rfl)
          · replace h := h.2 c40
            refine lv_iload_n hx hb dX0_plough_58 rfl (lv_at hl 5 rfl) ?_
            refine lv_iload hx hb dX0_plough_59 (lv_at hl 0 rfl) ?_
            refine mcalli (w1 := (fun _ => (wF g q) S4)) (wc := fun _ : Unit => ([] : va_W)) (u := ()) (va_runSN (As := [.int a3, .int r13]) (rest := []) hC (kX5_holds l g aK aV H.size a3 r13 _ h) ⟨va_cnB 2 hts gX0_plough_X5_holds_n86 rfl rfl rfl hE.nMX0_86 (hts (.initialized RX5) (List.mem_of_getElem? (i := 29) rfl)) (by decide +kernel) ⟨by simp only [rmm]; omega, by simp only [rmm]; omega⟩, (hts (.static yX5_holds) (List.mem_of_getElem? (i := 28) rfl)), trivial⟩ (mpre (E5_ok aK aV) hK hE hA hw (Sub1.nil _)) rfl rfl hl.1 rfl (lv_room (Nat.le_of_ble_eq_true rfl)) dX0_plough_61 ⟨Nat.zero_le _, Nat.zero_le _⟩) hA hw (Sub1.nil _) (fun _ => Sub.nil _) (fun r17 u18 H locs h hw => ?_)
            obtain ⟨_, h⟩ := h
            refine lv_if_ne (tgt := 70) hx hb dX0_plough_64 (by decide) (fun c39 => ?_) (fun c39 => ?_)
            · replace h := h.2 c39
              refine lv_aload_n hx hb dX0_plough_70 rfl (lv_at hl 2 rfl) ?_
              refine F_fg0 hC hinX0 hK hw (List.mem_of_getElem? (i := 2) rfl) dX0_plough_71 ?_
              refine lv_aload_n hx hb dX0_plough_74 rfl (lv_at hl 2 rfl) ?_
              refine F_fg2 hC hinX0 hK hw (List.mem_of_getElem? (i := 3) rfl) dX0_plough_75 ?_
              refine lv_iload hx hb dX0_plough_78 (lv_at hl 0 rfl) ?_
              refine lv_iload hx hb dX0_plough_80 (lv_at hl 6 rfl) ?_
              refine lv_iload hx hb dX0_plough_82 (lv_at hl 1 rfl) ?_
              refine lv_iload hx hb dX0_plough_84 (lv_at hl 7 rfl) ?_
              refine mcalli (w1 := (fun _ => (wF g q) S4)) (wc := fun _ : Unit => ([] : va_W)) (u := ()) (va_runSN (As := [.int (S4 0 0), .int (S4 0 2), .int r13, .int a4, .int x12, .int a5]) (rest := []) hC (kX5_mayStep l g aK aV H.size (S4 0 0) (S4 0 2) r13 a4 x12 a5 _ h) ⟨va_cnB 6 hts gX0_plough_X5_mayStep_n103 rfl rfl rfl hE.nMX0_103 (hts (.initialized RX5) (List.mem_of_getElem? (i := 29) rfl)) (by decide +kernel) ⟨by simp only [rmm]; omega, by simp only [rmm]; omega⟩, (hts (.static yX5_mayStep) (List.mem_of_getElem? (i := 33) rfl)), trivial⟩ (mpre (E5_ok aK aV) hK hE hA hw (Sub1.nil _)) rfl rfl hl.1 rfl (lv_room (Nat.le_of_ble_eq_true rfl)) dX0_plough_86 ⟨Nat.zero_le _, Nat.zero_le _⟩) hA hw (Sub1.nil _) (fun _ => Sub.nil _) (fun r19 u20 H locs h hw => ?_)
              obtain ⟨_, h⟩ := h
              refine lv_if_eq (tgt := 144) hx hb dX0_plough_89 (by decide) (fun c36 => ?_) (fun c36 => ?_)
              · replace h := h.1 c36
                obtain ⟨x21, ex21⟩ : ∃ y : Int32, y = x3 + (1 : Int32) := ⟨_, rfl⟩
                refine lv_iinc (v := x21) (lv' := [(7, .int x21), (9, .int r13), (8, .int x12), (0, .ref (q 0)), (1, .int a1), (2, .int a2), (3, .int a3), (4, .int a4), (5, .int a5), (6, .int a6)]) hx hb dX0_plough_144 hl (k := 9) rfl (by rw [ex21]; rfl) (by decide) rfl (fun ls hl => ?_)
                replace h := h x21 ex21
                refine lv_goto (tgt := 31) hx hb dX0_plough_147 (by decide) ?_
                exact h _ _ _ hw (lv_sub hl [3, 4, 5, 6, 7, 8, 9, 0] rfl)
              · replace h := h.2 c36
                refine lv_iload hx hb dX0_plough_92 (lv_at hl 6 rfl) ?_
                refine lv_iload hx hb dX0_plough_94 (lv_at hl 1 rfl) ?_
                refine mcalli (w1 := (fun _ => (wF g q) S4)) (wc := fun _ : Unit => ([] : va_W)) (u := ()) (va_runSN (As := [.int a4, .int x12]) (rest := []) hC (kX5_isTurn l g aK aV H.size a4 x12 _ h) ⟨va_cnB 2 hts gX0_plough_X5_isTurn_n107 rfl rfl rfl hE.nMX0_107 (hts (.initialized RX5) (List.mem_of_getElem? (i := 29) rfl)) (by decide +kernel) ⟨by simp only [rmm]; omega, by simp only [rmm]; omega⟩, (hts (.static yX5_isTurn) (List.mem_of_getElem? (i := 36) rfl)), trivial⟩ (mpre (E5_ok aK aV) hK hE hA hw (Sub1.nil _)) rfl rfl hl.1 rfl (lv_room (Nat.le_of_ble_eq_true rfl)) dX0_plough_96 ⟨Nat.zero_le _, Nat.zero_le _⟩) hA hw (Sub1.nil _) (fun _ => Sub.nil _) (fun r23 u24 H locs h hw => ?_)
                obtain ⟨_, h⟩ := h
                refine lv_istore (lv' := [(10, .int r23), (9, .int r13), (8, .int x12), (0, .ref (q 0)), (1, .int a1), (2, .int a2), (3, .int a3), (4, .int a4), (5, .int a5), (6, .int a6), (7, .int x3)]) hx hb dX0_plough_99 hl (by decide) rfl (fun ls hl => ?_)
                refine lv_aload_n hx hb dX0_plough_101 rfl (lv_at hl 3 rfl) ?_
                refine F_fg13 hC hinX0 hK hw (List.mem_of_getElem? (i := 4) rfl) dX0_plough_102 ?_
                refine lv_iload_n hx hb dX0_plough_105 rfl (lv_at hl 4 rfl) ?_
                refine lv_iload hx hb dX0_plough_106 (lv_at hl 1 rfl) ?_
                obtain ⟨hi, h⟩ := h
                refine F_fs13 hC hK hw hi dX0_plough_108 (fun S25 H locs eS25 hw => ?_)
                replace h := h S25 eS25
                refine lv_aload_n hx hb dX0_plough_109 rfl (lv_at hl 3 rfl) ?_
                refine lv_iload_n hx hb dX0_plough_110 rfl (lv_at hl 4 rfl) ?_
                refine lv_iconst (v := (1 : Int32)) hx hb dX0_plough_111 (by decide) ?_
                refine lv_iadd hx hb dX0_plough_112 ?_
                refine lv_iload hx hb dX0_plough_113 (lv_at hl 1 rfl) ?_
                refine lv_iload_n hx hb dX0_plough_115 rfl (lv_at hl 6 rfl) ?_
                refine lv_iconst (v := (1 : Int32)) hx hb dX0_plough_116 (by decide) ?_
                refine lv_iload hx hb dX0_plough_117 (lv_at hl 1 rfl) ?_
                refine lv_ishl hx hb dX0_plough_119 ?_
                refine lv_iconst (v := (-1 : Int32)) hx hb dX0_plough_120 (by decide) ?_
                refine lv_ixor hx hb dX0_plough_121 ?_
                refine lv_iand hx hb dX0_plough_122 ?_
                refine lv_iload hx hb dX0_plough_123 (lv_at hl 2 rfl) ?_
                refine lv_iload hx hb dX0_plough_125 (lv_at hl 0 rfl) ?_
                refine lv_iload hx hb dX0_plough_127 (lv_at hl 0 rfl) ?_
                obtain ⟨J27, hJ28, h⟩ := h
                have join29 : ∀ (y26 : Int32) (H : Heap) (locs : List Loc) (ls : Array Slot), J27 y26 → Wd g.1 A s.heap ((wF g q) S25) H locs → lv_has ls 11 [(0, .ref (q 0)), (1, .int a1), (2, .int a2), (3, .int a3), (4, .int a4), (5, .int a5), (6, .int a6), (7, .int x3)] → W p l e (rmm (d + 1 + 2) ((d + 1) * 30 + 86)) s m args below meth c H locs 0 0 Q (F0 m 141 ls [.int y26, .int r23, .int x12, .int (a3 &&& (((1 : Int32) <<< (r13 &&& 31)) ^^^ (-1 : Int32))), .int r13, .int (a1 + (1 : Int32)), .ref (q 0)]) := by
                  intro y26 H locs ls h hw hl
                  replace h := hJ28 y26 h
                  refine mcallv (w1 := (wF g q)) (va_runV (As := [.int (a1 + (1 : Int32)), .int r13, .int (a3 &&& (((1 : Int32) <<< (r13 &&& 31)) ^^^ (-1 : Int32))), .int x12, .int r23, .int y26]) (rest := []) hC (ihd  H.size S25 (a1 + (1 : Int32)) r13 (a3 &&& (((1 : Int32) <<< (r13 &&& 31)) ^^^ (-1 : Int32))) x12 r23 y26 _ h) (cwV 6 hts gX0_plough_X0_plough rfl rfl rfl (by decide +kernel) ⟨by simp only [rmm]; omega, by simp only [rmm]; omega⟩) (mpreV (E5_ok aK aV) hK hE hA hw (Sub1.refl _) 0 rfl rfl) rfl rfl hl.1 rfl (lv_room (Nat.le_of_ble_eq_true rfl)) dX0_plough_141 ⟨Nat.zero_le _, Nat.zero_le _⟩) hA hw (Sub1.refl _) (fun _ => Sub.whole rfl) (fun u31 H locs h hw => ?_)
                  obtain ⟨S32, rfl⟩ : ∃ z, z = u31 := ⟨_, rfl⟩
                  obtain ⟨x33, ex33⟩ : ∃ y : Int32, y = x3 + (1 : Int32) := ⟨_, rfl⟩
                  refine lv_iinc (v := x33) (lv' := [(7, .int x33), (0, .ref (q 0)), (1, .int a1), (2, .int a2), (3, .int a3), (4, .int a4), (5, .int a5), (6, .int a6)]) hx hb dX0_plough_144 hl (k := 7) rfl (by rw [ex33]; rfl) (by decide) rfl (fun ls hl => ?_)
                  replace h := h x33 ex33
                  refine lv_goto (tgt := 31) hx hb dX0_plough_147 (by decide) ?_
                  exact h _ _ _ hw (lv_sub hl [1, 2, 3, 4, 5, 6, 7, 0] rfl)
                refine lv_if_eq (tgt := 139) hx hb dX0_plough_129 (by decide) (fun c35 => ?_) (fun c35 => ?_)
                · replace h := h.1 c35
                  refine lv_iload hx hb dX0_plough_139 (lv_at hl 9 rfl) ?_
                  exact join29 a6 _ _ _ h hw (lv_sub hl [3, 4, 5, 6, 7, 8, 9, 10] rfl)
                · replace h := h.2 c35
                  refine lv_iload hx hb dX0_plough_132 (lv_at hl 9 rfl) ?_
                  refine lv_iconst (v := (1 : Int32)) hx hb dX0_plough_134 (by decide) ?_
                  refine lv_iadd hx hb dX0_plough_135 ?_
                  refine lv_goto (tgt := 141) hx hb dX0_plough_136 (by decide) ?_
                  exact join29 (a6 + (1 : Int32)) _ _ _ h hw (lv_sub hl [3, 4, 5, 6, 7, 8, 9, 10] rfl)
            · replace h := h.1 c39
              refine lv_goto (tgt := 144) hx hb dX0_plough_67 (by decide) ?_
              obtain ⟨x37, ex37⟩ : ∃ y : Int32, y = x3 + (1 : Int32) := ⟨_, rfl⟩
              refine lv_iinc (v := x37) (lv' := [(7, .int x37), (9, .int r13), (8, .int x12), (0, .ref (q 0)), (1, .int a1), (2, .int a2), (3, .int a3), (4, .int a4), (5, .int a5), (6, .int a6)]) hx hb dX0_plough_144 hl (k := 9) rfl (by rw [ex37]; rfl) (by decide) rfl (fun ls hl => ?_)
              replace h := h x37 ex37
              refine lv_goto (tgt := 31) hx hb dX0_plough_147 (by decide) ?_
              exact h _ _ _ hw (lv_sub hl [3, 4, 5, 6, 7, 8, 9, 0] rfl)
      · replace h := h.2 c42
        rw [hQ]
        exact mretv (w := (wF g q)) (u := S) hC hr hlocks hK hw h dX0_plough_27
  · replace h := h.1 c47
    refine lv_aload_n hx hb dX0_plough_4 rfl (lv_at hl 0 rfl) ?_
    refine lv_iload_n hx hb dX0_plough_5 rfl (lv_at hl 2 rfl) ?_
    refine lv_iload hx hb dX0_plough_6 (lv_at hl 6 rfl) ?_
    refine mcallv (w1 := (wF g q)) (va_runV (As := [.int a2, .int a6]) (rest := []) hC (kX0_keep l g aK aV q H.size S a2 a6 _ h) (cwV 2 hts gX0_plough_X0_keep rfl rfl rfl (by decide +kernel) ⟨by simp only [rmm]; omega, by simp only [rmm]; omega⟩) (mpreV (E5_ok aK aV) hK hE hA hw (Sub1.refl _) 0 rfl rfl) rfl rfl hl.1 rfl (lv_room (Nat.le_of_ble_eq_true rfl)) dX0_plough_8 ⟨Nat.zero_le _, Nat.zero_le _⟩) hA hw (Sub1.refl _) (fun _ => Sub.whole rfl) (fun u45 H locs h hw => ?_)
    obtain ⟨S46, rfl⟩ : ∃ z, z = u45 := ⟨_, rfl⟩
    rw [hQ]
    exact mretv (w := (wF g q)) (u := S46) hC hr hlocks hK hw h dX0_plough_11
def wX0_searchWhole (S : Bun)  (post : Bun → Prop) : Prop :=
  ∀ S1 : Bun, S1 = up S 0 6 (0 : Int32) → ∀ S2 : Bun, S2 = up S1 0 7 (0 : Int32) → wJ7_fill_53178 (S2 10) (-1 : Int32) (fun f5 => ∀ S6 : Bun, S6 = va_up S2 10 f5 → wJ7_fill_53178 (S6 11) (-1 : Int32) (fun f9 => ∀ S10 : Bun, S10 = va_up S6 11 f9 → wloop (σ := Int32 × Bun) (fun K13 z => match z with | (x11, S12) => (((16 : Int32) ≤ x11 → post S12) ∧ (¬ ((16 : Int32) ≤ x11) → wX0_mayBegin S12 x11 (fun r19 => ((r19 = 0 → ∀ x21 : Int32, x21 = x11 + (1 : Int32) → K13 (x21, S12)) ∧ (¬ (r19 = 0) → wX5_barOf (S12 0 1) x11 (S12 0 4) (fun r23 => ((r23 = 0 → vp_in (0 : Int32) 16 ∧ ∀ S27 : Bun, S27 = up S12 14 (0 : Int32).toNatClampNeg x11 → wX0_plough 17 S27 (1 : Int32) x11 ((S27 0 1) &&& (((1 : Int32) <<< (x11 &&& 31)) ^^^ (-1 : Int32))) (-1 : Int32) (0 : Int32) (0 : Int32) (fun S30 => ∀ x31 : Int32, x31 = x11 + (1 : Int32) → K13 (x31, S30))) ∧ (¬ (r23 = 0) → ∀ x25 : Int32, x25 = x11 + (1 : Int32) → K13 (x25, S12)))))))))) ((0 : Int32), S10)))
set_option maxRecDepth 100000 in
set_option maxHeartbeats 4000000 in
theorem kX0_searchWhole (l : Launch) (g : Gl) (aK : Nat → Nat) (aV : Nat → Nat) (q : Nat → Nat) (sz : Nat) (S : Bun)  (post : Bun → Prop) (h : wX0_searchWhole S  post) : Met l yX0_searchWhole wsX0_searchWhole (rmm 20 626) (wPc g (E5 aK aV) ((wF g q) S) sz [.ref (q 0)]) (va_Qv (fun (u : Bun) => post u) (wB g (wF g q) (va_A ((wF g q) S) sz)) (va_A ((wF g q) S) sz)) 0 0 (va_A ((wF g q) S) sz) := by
  refine mstart (Qf := fun A => va_Qv (fun (u : Bun) => post u) (wB g (wF g q) A) A) (by decide) rfl (Nat.le_of_ble_eq_true rfl) ?_
  intro p e s m args below meth c A Q H locs ls hC hr hlocks hname hQ hA hK hE hw hl
  have hC : CallFix p m c cX0_searchWhole 2 s args wsX0_searchWhole RX0 := hC
  obtain ⟨hx, hb, -, hown, hts⟩ := id hC
  have hl : lv_has ls 2 [(0, .ref (q 0))] := hl
  rw [wX0_searchWhole] at h
  have hinX0 : ∀ w ∈ wsX00, w ∈ wsX0_searchWhole := fun w hw9 => List.mem_cons_of_mem _ (List.mem_append_right _ hw9)
  refine lv_aload_n hx hb dX0_searchWhole_0 rfl (lv_at hl 0 rfl) ?_
  refine lv_iconst (v := (0 : Int32)) hx hb dX0_searchWhole_1 (by decide) ?_
  refine F_fp6 hC hinX0 hK hw (List.mem_of_getElem? (i := 1) rfl) dX0_searchWhole_2 (fun S1 H locs eS1 hw => ?_)
  replace h := h S1 eS1
  refine lv_aload_n hx hb dX0_searchWhole_5 rfl (lv_at hl 0 rfl) ?_
  refine lv_iconst (v := (0 : Int32)) hx hb dX0_searchWhole_6 (by decide) ?_
  refine F_fp7 hC hinX0 hK hw (List.mem_of_getElem? (i := 2) rfl) dX0_searchWhole_7 (fun S2 H locs eS2 hw => ?_)
  replace h := h S2 eS2
  refine lv_aload_n hx hb dX0_searchWhole_10 rfl (lv_at hl 0 rfl) ?_
  refine F_fg9 hC hinX0 hK hw (List.mem_of_getElem? (i := 3) rfl) dX0_searchWhole_11 ?_
  refine lv_iconst (v := (-1 : Int32)) hx hb dX0_searchWhole_14 (by decide) ?_
  refine mcallv (w1 := (fun f9 => (wF g q) (va_up S2 10 f9))) (va_runS (As := [.ref (q 10), .int (-1 : Int32)]) (rest := []) hC (kJ7_fill_53178 l g aK aV (q 10) H.size (S2 10) (-1 : Int32) _ h) (va_cwS 2 hts gX0_searchWhole_J7_fill_53178 rfl rfl rfl (by decide +kernel) ⟨Nat.le_of_ble_eq_true rfl, Nat.le_of_ble_eq_true rfl⟩) (mpre (E5_ok aK aV) hK hE hA hw (F_af9_1 g)) rfl rfl hl.1 rfl (lv_room (Nat.le_of_ble_eq_true rfl)) dX0_searchWhole_15 ⟨Nat.zero_le _, Nat.zero_le _⟩) hA hw (F_af9_1 g) (fun f9 => F_af9 g f9) (fun u4 H locs h hw => ?_)
  obtain ⟨f5, rfl⟩ : ∃ z, z = u4 := ⟨_, rfl⟩
  obtain ⟨S6, eS6⟩ : ∃ z, z = va_up S2 10 f5 := ⟨_, rfl⟩
  replace h := h S6 eS6
  replace hw : Wd g.1 A s.heap ((wF g q) S6) H locs := by rw [eS6]; exact hw
  refine lv_aload_n hx hb dX0_searchWhole_18 rfl (lv_at hl 0 rfl) ?_
  refine F_fg10 hC hinX0 hK hw (List.mem_of_getElem? (i := 4) rfl) dX0_searchWhole_19 ?_
  refine lv_iconst (v := (-1 : Int32)) hx hb dX0_searchWhole_22 (by decide) ?_
  refine mcallv (w1 := (fun f9 => (wF g q) (va_up S6 11 f9))) (va_runS (As := [.ref (q 11), .int (-1 : Int32)]) (rest := []) hC (kJ7_fill_53178 l g aK aV (q 11) H.size (S6 11) (-1 : Int32) _ h) (va_cwS 2 hts gX0_searchWhole_J7_fill_53178 rfl rfl rfl (by decide +kernel) ⟨Nat.le_of_ble_eq_true rfl, Nat.le_of_ble_eq_true rfl⟩) (mpre (E5_ok aK aV) hK hE hA hw (F_af10_1 g)) rfl rfl hl.1 rfl (lv_room (Nat.le_of_ble_eq_true rfl)) dX0_searchWhole_23 ⟨Nat.zero_le _, Nat.zero_le _⟩) hA hw (F_af10_1 g) (fun f9 => F_af10 g f9) (fun u8 H locs h hw => ?_)
  obtain ⟨f9, rfl⟩ : ∃ z, z = u8 := ⟨_, rfl⟩
  obtain ⟨S10, eS10⟩ : ∃ z, z = va_up S6 11 f9 := ⟨_, rfl⟩
  replace h := h S10 eS10
  replace hw : Wd g.1 A s.heap ((wF g q) S10) H locs := by rw [eS10]; exact hw
  refine lv_iconst (v := (0 : Int32)) hx hb dX0_searchWhole_26 (by decide) ?_
  refine lv_istore_n (lv' := [(1, .int (0 : Int32)), (0, .ref (q 0))]) hx hb dX0_searchWhole_27 rfl hl (by decide) rfl (fun ls hl => ?_)
  refine h (fun z => match z with | (x11, S12) => ∀ (H : Heap) (locs : List Loc) (ls : Array Slot), Wd g.1 A s.heap ((wF g q) S12) H locs → lv_has ls 2 [(0, .ref (q 0)), (1, .int x11)] → W p l e (rmm 20 626) s m args below meth c H locs 0 0 Q (F0 m 28 ls [])) ?_ _ _ _ hw (lv_sub hl [1, 0] rfl)
  clear h hw hl
  rintro ⟨x11, S12⟩ h H locs ls hw hl
  refine lv_iload_n hx hb dX0_searchWhole_28 rfl (lv_at hl 1 rfl) ?_
  refine lv_bipush (v := (16 : Int32)) hx hb dX0_searchWhole_29 (by decide) ?_
  refine lv_icmp_ge (tgt := 89) hx hb dX0_searchWhole_31 (by decide) (fun c35 => ?_) (fun c35 => ?_)
  · replace h := h.1 c35
    rw [hQ]
    exact mretv (w := (wF g q)) (u := S12) hC hr hlocks hK hw h dX0_searchWhole_89
  · replace h := h.2 c35
    refine lv_aload_n hx hb dX0_searchWhole_34 rfl (lv_at hl 0 rfl) ?_
    refine lv_iload_n hx hb dX0_searchWhole_35 rfl (lv_at hl 1 rfl) ?_
    refine mcalli (w1 := (wF g q)) (va_runV (As := [.int x11]) (rest := []) hC (kX0_mayBegin l g aK aV q H.size S12 x11 _ h) (cwV 1 hts gX0_searchWhole_X0_mayBegin rfl rfl rfl (by decide +kernel) ⟨Nat.le_of_ble_eq_true rfl, Nat.le_of_ble_eq_true rfl⟩) (mpreV (E5_ok aK aV) hK hE hA hw (Sub1.refl _) 0 rfl rfl) rfl rfl hl.1 rfl (lv_room (Nat.le_of_ble_eq_true rfl)) dX0_searchWhole_36 ⟨Nat.zero_le _, Nat.zero_le _⟩) hA hw (Sub1.refl _) (fun _ => Sub.whole rfl) (fun r19 u20 H locs h hw => ?_)
    obtain ⟨hu, h⟩ := h
    replace hu := hu.symm
    subst hu
    refine lv_if_eq (tgt := 83) hx hb dX0_searchWhole_39 (by decide) (fun c34 => ?_) (fun c34 => ?_)
    · replace h := h.1 c34
      obtain ⟨x21, ex21⟩ : ∃ y : Int32, y = x11 + (1 : Int32) := ⟨_, rfl⟩
      refine lv_iinc (v := x21) (lv' := [(1, .int x21), (0, .ref (q 0))]) hx hb dX0_searchWhole_83 hl (k := 1) rfl (by rw [ex21]; rfl) (by decide) rfl (fun ls hl => ?_)
      replace h := h x21 ex21
      refine lv_goto (tgt := 28) hx hb dX0_searchWhole_86 (by decide) ?_
      exact h _ _ _ hw (lv_sub hl [1, 0] rfl)
    · replace h := h.2 c34
      refine lv_aload_n hx hb dX0_searchWhole_42 rfl (lv_at hl 0 rfl) ?_
      refine F_fg1 hC hinX0 hK hw (List.mem_of_getElem? (i := 5) rfl) dX0_searchWhole_43 ?_
      refine lv_iload_n hx hb dX0_searchWhole_46 rfl (lv_at hl 1 rfl) ?_
      refine lv_aload_n hx hb dX0_searchWhole_47 rfl (lv_at hl 0 rfl) ?_
      refine F_fg4 hC hinX0 hK hw (List.mem_of_getElem? (i := 6) rfl) dX0_searchWhole_48 ?_
      refine mcalli (w1 := (fun _ => (wF g q) S12)) (wc := fun _ : Unit => ([] : va_W)) (u := ()) (va_runSN (As := [.int (S12 0 1), .int x11, .int (S12 0 4)]) (rest := []) hC (kX5_barOf l g aK aV H.size (S12 0 1) x11 (S12 0 4) _ h) ⟨va_cnB 3 hts gX0_searchWhole_X5_barOf_n78 rfl rfl rfl hE.nMX0_78 (hts (.initialized RX5) (List.mem_of_getElem? (i := 19) rfl)) (by decide +kernel) ⟨Nat.le_of_ble_eq_true rfl, Nat.le_of_ble_eq_true rfl⟩, (hts (.static yX5_barOf) (List.mem_of_getElem? (i := 21) rfl)), trivial⟩ (mpre (E5_ok aK aV) hK hE hA hw (Sub1.nil _)) rfl rfl hl.1 rfl (lv_room (Nat.le_of_ble_eq_true rfl)) dX0_searchWhole_51 ⟨Nat.zero_le _, Nat.zero_le _⟩) hA hw (Sub1.nil _) (fun _ => Sub.nil _) (fun r23 u24 H locs h hw => ?_)
      obtain ⟨_, h⟩ := h
      refine lv_if_ne (tgt := 83) hx hb dX0_searchWhole_54 (by decide) (fun c33 => ?_) (fun c33 => ?_)
      · replace h := h.2 c33
        obtain ⟨x25, ex25⟩ : ∃ y : Int32, y = x11 + (1 : Int32) := ⟨_, rfl⟩
        refine lv_iinc (v := x25) (lv' := [(1, .int x25), (0, .ref (q 0))]) hx hb dX0_searchWhole_83 hl (k := 1) rfl (by rw [ex25]; rfl) (by decide) rfl (fun ls hl => ?_)
        replace h := h x25 ex25
        refine lv_goto (tgt := 28) hx hb dX0_searchWhole_86 (by decide) ?_
        exact h _ _ _ hw (lv_sub hl [1, 0] rfl)
      · replace h := h.1 c33
        refine lv_aload_n hx hb dX0_searchWhole_57 rfl (lv_at hl 0 rfl) ?_
        refine F_fg13 hC hinX0 hK hw (List.mem_of_getElem? (i := 7) rfl) dX0_searchWhole_58 ?_
        refine lv_iconst (v := (0 : Int32)) hx hb dX0_searchWhole_61 (by decide) ?_
        refine lv_iload_n hx hb dX0_searchWhole_62 rfl (lv_at hl 1 rfl) ?_
        obtain ⟨hi, h⟩ := h
        refine F_fs13 hC hK hw hi dX0_searchWhole_63 (fun S27 H locs eS27 hw => ?_)
        replace h := h S27 eS27
        refine lv_aload_n hx hb dX0_searchWhole_64 rfl (lv_at hl 0 rfl) ?_
        refine lv_iconst (v := (1 : Int32)) hx hb dX0_searchWhole_65 (by decide) ?_
        refine lv_iload_n hx hb dX0_searchWhole_66 rfl (lv_at hl 1 rfl) ?_
        refine lv_aload_n hx hb dX0_searchWhole_67 rfl (lv_at hl 0 rfl) ?_
        refine F_fg1 hC hinX0 hK hw (List.mem_of_getElem? (i := 5) rfl) dX0_searchWhole_68 ?_
        refine lv_iconst (v := (1 : Int32)) hx hb dX0_searchWhole_71 (by decide) ?_
        refine lv_iload_n hx hb dX0_searchWhole_72 rfl (lv_at hl 1 rfl) ?_
        refine lv_ishl hx hb dX0_searchWhole_73 ?_
        refine lv_iconst (v := (-1 : Int32)) hx hb dX0_searchWhole_74 (by decide) ?_
        refine lv_ixor hx hb dX0_searchWhole_75 ?_
        refine lv_iand hx hb dX0_searchWhole_76 ?_
        refine lv_iconst (v := (-1 : Int32)) hx hb dX0_searchWhole_77 (by decide) ?_
        refine lv_iconst (v := (0 : Int32)) hx hb dX0_searchWhole_78 (by decide) ?_
        refine lv_iconst (v := (0 : Int32)) hx hb dX0_searchWhole_79 (by decide) ?_
        refine mcallv (w1 := (wF g q)) (va_runV (As := [.int (1 : Int32), .int x11, .int ((S27 0 1) &&& (((1 : Int32) <<< (x11 &&& 31)) ^^^ (-1 : Int32))), .int (-1 : Int32), .int (0 : Int32), .int (0 : Int32)]) (rest := []) hC (kX0_plough l g aK aV q 17 H.size S27 (1 : Int32) x11 ((S27 0 1) &&& (((1 : Int32) <<< (x11 &&& 31)) ^^^ (-1 : Int32))) (-1 : Int32) (0 : Int32) (0 : Int32) _ h) (cwV 6 hts gX0_searchWhole_X0_plough rfl rfl rfl (by decide +kernel) ⟨Nat.le_of_ble_eq_true rfl, Nat.le_of_ble_eq_true rfl⟩) (mpreV (E5_ok aK aV) hK hE hA hw (Sub1.refl _) 0 rfl rfl) rfl rfl hl.1 rfl (lv_room (Nat.le_of_ble_eq_true rfl)) dX0_searchWhole_80 ⟨Nat.zero_le _, Nat.zero_le _⟩) hA hw (Sub1.refl _) (fun _ => Sub.whole rfl) (fun u29 H locs h hw => ?_)
        obtain ⟨S30, rfl⟩ : ∃ z, z = u29 := ⟨_, rfl⟩
        obtain ⟨x31, ex31⟩ : ∃ y : Int32, y = x11 + (1 : Int32) := ⟨_, rfl⟩
        refine lv_iinc (v := x31) (lv' := [(1, .int x31), (0, .ref (q 0))]) hx hb dX0_searchWhole_83 hl (k := 1) rfl (by rw [ex31]; rfl) (by decide) rfl (fun ls hl => ?_)
        replace h := h x31 ex31
        refine lv_goto (tgt := 28) hx hb dX0_searchWhole_86 (by decide) ?_
        exact h _ _ _ hw (lv_sub hl [1, 0] rfl)
def wX0_ask (S : Bun) (a1 : Int32) (a2 : Int32) (a3 : Int32) (a4 : Int32) (a5 : Int32) (post : Bun → Prop) : Prop :=
  wX5_isOfKind a1 (4 : Int32) (fun r1 => wjoin (σ := Int32) (fun y3 => wjoin (σ := Int32) (fun y7 => wjoin (σ := Unit) (fun _ => ∀ S14 : Bun, S14 = up S 0 0 a1 → ∀ S15 : Bun, S15 = up S14 0 1 a2 → ∀ S16 : Bun, S16 = up S15 0 2 y3 → ∀ S17 : Bun, S17 = up S16 0 3 a4 → ∀ S18 : Bun, S18 = up S17 0 4 a5 → wJ6_bitCount_0f7a4 (S18 0 1) (fun r19 => ∀ S21 : Bun, S21 = up S18 0 5 r19 → ∀ S22 : Bun, S22 = up S21 0 11 (-1 : Int32) → wX0_searchWhole S22  (fun S25 => post S25))) (fun J11 => ((a1 = (S 0 0) → ((y7 = 0 → J11 ()) ∧ (¬ (y7 = 0) → post S))) ∧ (¬ (a1 = (S 0 0)) → J11 ())))) (fun J8 => ((a2 = (S 0 1) → ((y3 = (S 0 2) → ((a4 = (S 0 3) → ((a5 = (S 0 4) → J8 (1 : Int32)) ∧ (¬ (a5 = (S 0 4)) → J8 (0 : Int32)))) ∧ (¬ (a4 = (S 0 3)) → J8 (0 : Int32)))) ∧ (¬ (y3 = (S 0 2)) → J8 (0 : Int32)))) ∧ (¬ (a2 = (S 0 1)) → J8 (0 : Int32))))) (fun J4 => ((r1 = 0 → J4 (0 : Int32)) ∧ (¬ (r1 = 0) → wX5_cellsBeside a3 (fun r32 => J4 r32)))))
set_option maxRecDepth 100000 in
set_option maxHeartbeats 4000000 in
theorem kX0_ask (l : Launch) (g : Gl) (aK : Nat → Nat) (aV : Nat → Nat) (q : Nat → Nat) (sz : Nat) (S : Bun) (a1 : Int32) (a2 : Int32) (a3 : Int32) (a4 : Int32) (a5 : Int32) (post : Bun → Prop) (h : wX0_ask S a1 a2 a3 a4 a5 post) : Met l yX0_ask wsX0_ask (rmm 21 647) (wPc g (E5 aK aV) ((wF g q) S) sz [.ref (q 0), .int a1, .int a2, .int a3, .int a4, .int a5]) (va_Qv (fun (u : Bun) => post u) (wB g (wF g q) (va_A ((wF g q) S) sz)) (va_A ((wF g q) S) sz)) 0 0 (va_A ((wF g q) S) sz) := by
  refine mstart (Qf := fun A => va_Qv (fun (u : Bun) => post u) (wB g (wF g q) A) A) (by decide) rfl (Nat.le_of_ble_eq_true rfl) ?_
  intro p e s m args below meth c A Q H locs ls hC hr hlocks hname hQ hA hK hE hw hl
  have hC : CallFix p m c cX0_ask 8 s args wsX0_ask RX0 := hC
  obtain ⟨hx, hb, -, hown, hts⟩ := id hC
  have hl : lv_has ls 8 [(0, .ref (q 0)), (1, .int a1), (2, .int a2), (3, .int a3), (4, .int a4), (5, .int a5)] := hl
  rw [wX0_ask] at h
  have hinX0 : ∀ w ∈ wsX00, w ∈ wsX0_ask := fun w hw9 => List.mem_cons_of_mem _ (List.mem_append_right _ hw9)
  refine lv_iload_n hx hb dX0_ask_0 rfl (lv_at hl 1 rfl) ?_
  refine lv_iconst (v := (4 : Int32)) hx hb dX0_ask_1 (by decide) ?_
  refine mcalli (w1 := (fun _ => (wF g q) S)) (wc := fun _ : Unit => ([] : va_W)) (u := ()) (va_runSN (As := [.int a1, .int (4 : Int32)]) (rest := []) hC (kX5_isOfKind l g aK aV H.size a1 (4 : Int32) _ h) ⟨va_cnB 2 hts gX0_ask_X5_isOfKind_n28 rfl rfl rfl hE.nMX0_28 (hts (.initialized RX5) (List.mem_of_getElem? (i := 9) rfl)) (by decide +kernel) ⟨Nat.le_of_ble_eq_true rfl, Nat.le_of_ble_eq_true rfl⟩, (hts (.static yX5_isOfKind) (List.mem_of_getElem? (i := 8) rfl)), trivial⟩ (mpre (E5_ok aK aV) hK hE hA hw (Sub1.nil _)) rfl rfl hl.1 rfl (lv_room (Nat.le_of_ble_eq_true rfl)) dX0_ask_2 ⟨Nat.zero_le _, Nat.zero_le _⟩) hA hw (Sub1.nil _) (fun _ => Sub.nil _) (fun r1 u2 H locs h hw => ?_)
  obtain ⟨_, h⟩ := h
  obtain ⟨J4, hJ5, h⟩ := h
  have join6 : ∀ (y3 : Int32) (H : Heap) (locs : List Loc) (ls : Array Slot), J4 y3 → Wd g.1 A s.heap ((wF g q) S) H locs → lv_has ls 8 [(0, .ref (q 0)), (1, .int a1), (2, .int a2), (4, .int a4), (5, .int a5)] → W p l e (rmm 21 647) s m args below meth c H locs 0 0 Q (F0 m 16 ls [.int y3]) := by
    intro y3 H locs ls h hw hl
    replace h := hJ5 y3 h
    refine lv_istore (lv' := [(6, .int y3), (0, .ref (q 0)), (1, .int a1), (2, .int a2), (4, .int a4), (5, .int a5)]) hx hb dX0_ask_16 hl (by decide) rfl (fun ls hl => ?_)
    refine lv_iload_n hx hb dX0_ask_18 rfl (lv_at hl 3 rfl) ?_
    refine lv_aload_n hx hb dX0_ask_19 rfl (lv_at hl 1 rfl) ?_
    refine F_fg1 hC hinX0 hK hw (List.mem_of_getElem? (i := 1) rfl) dX0_ask_20 ?_
    obtain ⟨J8, hJ9, h⟩ := h
    have join10 : ∀ (y7 : Int32) (H : Heap) (locs : List Loc) (ls : Array Slot), J8 y7 → Wd g.1 A s.heap ((wF g q) S) H locs → lv_has ls 8 [(0, .ref (q 0)), (1, .int a1), (2, .int a2), (4, .int a4), (5, .int a5), (6, .int y3)] → W p l e (rmm 21 647) s m args below meth c H locs 0 0 Q (F0 m 58 ls [.int y7]) := by
      intro y7 H locs ls h hw hl
      replace h := hJ9 y7 h
      refine lv_istore (lv' := [(7, .int y7), (0, .ref (q 0)), (1, .int a1), (2, .int a2), (4, .int a4), (5, .int a5), (6, .int y3)]) hx hb dX0_ask_58 hl (by decide) rfl (fun ls hl => ?_)
      refine lv_iload_n hx hb dX0_ask_60 rfl (lv_at hl 2 rfl) ?_
      refine lv_aload_n hx hb dX0_ask_61 rfl (lv_at hl 1 rfl) ?_
      refine F_fg0 hC hinX0 hK hw (List.mem_of_getElem? (i := 5) rfl) dX0_ask_62 ?_
      obtain ⟨J11, hJ12, h⟩ := h
      have join13 : ∀  (H : Heap) (locs : List Loc) (ls : Array Slot), J11 () → Wd g.1 A s.heap ((wF g q) S) H locs → lv_has ls 8 [(0, .ref (q 0)), (1, .int a1), (2, .int a2), (4, .int a4), (5, .int a5), (6, .int y3)] → W p l e (rmm 21 647) s m args below meth c H locs 0 0 Q (F0 m 74 ls []) := by
        intro  H locs ls h hw hl
        replace h := hJ12 () h
        refine lv_aload_n hx hb dX0_ask_74 rfl (lv_at hl 0 rfl) ?_
        refine lv_iload_n hx hb dX0_ask_75 rfl (lv_at hl 1 rfl) ?_
        refine F_fp0 hC hinX0 hK hw (List.mem_of_getElem? (i := 5) rfl) dX0_ask_76 (fun S14 H locs eS14 hw => ?_)
        replace h := h S14 eS14
        refine lv_aload_n hx hb dX0_ask_79 rfl (lv_at hl 0 rfl) ?_
        refine lv_iload_n hx hb dX0_ask_80 rfl (lv_at hl 2 rfl) ?_
        refine F_fp1 hC hinX0 hK hw (List.mem_of_getElem? (i := 1) rfl) dX0_ask_81 (fun S15 H locs eS15 hw => ?_)
        replace h := h S15 eS15
        refine lv_aload_n hx hb dX0_ask_84 rfl (lv_at hl 0 rfl) ?_
        refine lv_iload hx hb dX0_ask_85 (lv_at hl 5 rfl) ?_
        refine F_fp2 hC hinX0 hK hw (List.mem_of_getElem? (i := 2) rfl) dX0_ask_87 (fun S16 H locs eS16 hw => ?_)
        replace h := h S16 eS16
        refine lv_aload_n hx hb dX0_ask_90 rfl (lv_at hl 0 rfl) ?_
        refine lv_iload hx hb dX0_ask_91 (lv_at hl 3 rfl) ?_
        refine F_fp3 hC hinX0 hK hw (List.mem_of_getElem? (i := 3) rfl) dX0_ask_93 (fun S17 H locs eS17 hw => ?_)
        replace h := h S17 eS17
        refine lv_aload_n hx hb dX0_ask_96 rfl (lv_at hl 0 rfl) ?_
        refine lv_iload hx hb dX0_ask_97 (lv_at hl 4 rfl) ?_
        refine F_fp4 hC hinX0 hK hw (List.mem_of_getElem? (i := 4) rfl) dX0_ask_99 (fun S18 H locs eS18 hw => ?_)
        replace h := h S18 eS18
        refine lv_aload_n hx hb dX0_ask_102 rfl (lv_at hl 0 rfl) ?_
        refine lv_aload_n hx hb dX0_ask_103 rfl (lv_at hl 0 rfl) ?_
        refine F_fg1 hC hinX0 hK hw (List.mem_of_getElem? (i := 1) rfl) dX0_ask_104 ?_
        refine mcalli (w1 := (fun _ => (wF g q) S18)) (wc := fun _ : Unit => ([] : va_W)) (u := ()) (va_runS (As := [.int (S18 0 1)]) (rest := [.ref (q 0)]) hC (kJ6_bitCount_0f7a4 l g aK aV H.size (S18 0 1) _ h) (va_cwS 1 hts gX0_ask_J6_bitCount_0f7a4 rfl rfl rfl (by decide +kernel) ⟨Nat.le_of_ble_eq_true rfl, Nat.le_of_ble_eq_true rfl⟩) (mpre (E5_ok aK aV) hK hE hA hw (Sub1.nil _)) rfl rfl hl.1 rfl (lv_room (Nat.le_of_ble_eq_true rfl)) dX0_ask_107 ⟨Nat.zero_le _, Nat.zero_le _⟩) hA hw (Sub1.nil _) (fun _ => Sub.nil _) (fun r19 u20 H locs h hw => ?_)
        obtain ⟨_, h⟩ := h
        refine F_fp5 hC hinX0 hK hw (List.mem_of_getElem? (i := 6) rfl) dX0_ask_110 (fun S21 H locs eS21 hw => ?_)
        replace h := h S21 eS21
        refine lv_aload_n hx hb dX0_ask_113 rfl (lv_at hl 0 rfl) ?_
        refine lv_iconst (v := (-1 : Int32)) hx hb dX0_ask_114 (by decide) ?_
        refine F_fp11 hC hinX0 hK hw (List.mem_of_getElem? (i := 7) rfl) dX0_ask_115 (fun S22 H locs eS22 hw => ?_)
        replace h := h S22 eS22
        refine lv_aload_n hx hb dX0_ask_118 rfl (lv_at hl 0 rfl) ?_
        refine mcallv (w1 := (wF g q)) (va_runV (As := []) (rest := []) hC (kX0_searchWhole l g aK aV q H.size S22  _ h) (cwV 0 hts gX0_ask_X0_searchWhole rfl rfl rfl (by decide +kernel) ⟨Nat.le_of_ble_eq_true rfl, Nat.le_of_ble_eq_true rfl⟩) (mpreV (E5_ok aK aV) hK hE hA hw (Sub1.refl _) 0 rfl rfl) rfl rfl hl.1 rfl (lv_room (Nat.le_of_ble_eq_true rfl)) dX0_ask_119 ⟨Nat.zero_le _, Nat.zero_le _⟩) hA hw (Sub1.refl _) (fun _ => Sub.whole rfl) (fun u24 H locs h hw => ?_)
        obtain ⟨S25, rfl⟩ : ∃ z, z = u24 := ⟨_, rfl⟩
        rw [hQ]
        exact mretv (w := (wF g q)) (u := S25) hC hr hlocks hK hw h dX0_ask_122
      refine lv_icmp_ne (tgt := 74) hx hb dX0_ask_65 (by decide) (fun c27 => ?_) (fun c27 => ?_)
      · replace h := h.2 c27
        exact join13  _ _ _ h hw (lv_sub hl [1, 2, 3, 4, 5, 6] rfl)
      · replace h := h.1 c27
        refine lv_iload hx hb dX0_ask_68 (lv_at hl 0 rfl) ?_
        refine lv_if_eq (tgt := 74) hx hb dX0_ask_70 (by decide) (fun c26 => ?_) (fun c26 => ?_)
        · replace h := h.1 c26
          exact join13  _ _ _ h hw (lv_sub hl [1, 2, 3, 4, 5, 6] rfl)
        · replace h := h.2 c26
          rw [hQ]
          exact mretv (w := (wF g q)) (u := S) hC hr hlocks hK hw h dX0_ask_73
    refine lv_icmp_ne (tgt := 57) hx hb dX0_ask_23 (by decide) (fun c31 => ?_) (fun c31 => ?_)
    · replace h := h.2 c31
      refine lv_iconst (v := (0 : Int32)) hx hb dX0_ask_57 (by decide) ?_
      exact join10 (0 : Int32) _ _ _ h hw (lv_sub hl [1, 2, 3, 4, 5, 0] rfl)
    · replace h := h.1 c31
      refine lv_iload hx hb dX0_ask_26 (lv_at hl 0 rfl) ?_
      refine lv_aload_n hx hb dX0_ask_28 rfl (lv_at hl 1 rfl) ?_
      refine F_fg2 hC hinX0 hK hw (List.mem_of_getElem? (i := 2) rfl) dX0_ask_29 ?_
      refine lv_icmp_ne (tgt := 57) hx hb dX0_ask_32 (by decide) (fun c30 => ?_) (fun c30 => ?_)
      · replace h := h.2 c30
        refine lv_iconst (v := (0 : Int32)) hx hb dX0_ask_57 (by decide) ?_
        exact join10 (0 : Int32) _ _ _ h hw (lv_sub hl [1, 2, 3, 4, 5, 0] rfl)
      · replace h := h.1 c30
        refine lv_iload hx hb dX0_ask_35 (lv_at hl 4 rfl) ?_
        refine lv_aload_n hx hb dX0_ask_37 rfl (lv_at hl 1 rfl) ?_
        refine F_fg3 hC hinX0 hK hw (List.mem_of_getElem? (i := 3) rfl) dX0_ask_38 ?_
        refine lv_icmp_ne (tgt := 57) hx hb dX0_ask_41 (by decide) (fun c29 => ?_) (fun c29 => ?_)
        · replace h := h.2 c29
          refine lv_iconst (v := (0 : Int32)) hx hb dX0_ask_57 (by decide) ?_
          exact join10 (0 : Int32) _ _ _ h hw (lv_sub hl [1, 2, 3, 4, 5, 0] rfl)
        · replace h := h.1 c29
          refine lv_iload hx hb dX0_ask_44 (lv_at hl 5 rfl) ?_
          refine lv_aload_n hx hb dX0_ask_46 rfl (lv_at hl 1 rfl) ?_
          refine F_fg4 hC hinX0 hK hw (List.mem_of_getElem? (i := 4) rfl) dX0_ask_47 ?_
          refine lv_icmp_ne (tgt := 57) hx hb dX0_ask_50 (by decide) (fun c28 => ?_) (fun c28 => ?_)
          · replace h := h.2 c28
            refine lv_iconst (v := (0 : Int32)) hx hb dX0_ask_57 (by decide) ?_
            exact join10 (0 : Int32) _ _ _ h hw (lv_sub hl [1, 2, 3, 4, 5, 0] rfl)
          · replace h := h.1 c28
            refine lv_iconst (v := (1 : Int32)) hx hb dX0_ask_53 (by decide) ?_
            refine lv_goto (tgt := 58) hx hb dX0_ask_54 (by decide) ?_
            exact join10 (1 : Int32) _ _ _ h hw (lv_sub hl [1, 2, 3, 4, 5, 0] rfl)
  refine lv_if_eq (tgt := 15) hx hb dX0_ask_5 (by decide) (fun c34 => ?_) (fun c34 => ?_)
  · replace h := h.1 c34
    refine lv_iconst (v := (0 : Int32)) hx hb dX0_ask_15 (by decide) ?_
    exact join6 (0 : Int32) _ _ _ h hw (lv_sub hl [0, 1, 2, 4, 5] rfl)
  · replace h := h.2 c34
    refine lv_iload_n hx hb dX0_ask_8 rfl (lv_at hl 3 rfl) ?_
    refine mcalli (w1 := (fun _ => (wF g q) S)) (wc := fun _ : Unit => ([] : va_W)) (u := ()) (va_runSN (As := [.int a3]) (rest := []) hC (kX5_cellsBeside l g aK aV H.size a3 _ h) ⟨va_cnB 1 hts gX0_ask_X5_cellsBeside_n32 rfl rfl rfl hE.nMX0_32 (hts (.initialized RX5) (List.mem_of_getElem? (i := 9) rfl)) (by decide +kernel) ⟨Nat.le_of_ble_eq_true rfl, Nat.le_of_ble_eq_true rfl⟩, (hts (.static yX5_cellsBeside) (List.mem_of_getElem? (i := 12) rfl)), trivial⟩ (mpre (E5_ok aK aV) hK hE hA hw (Sub1.nil _)) rfl rfl hl.1 rfl (lv_room (Nat.le_of_ble_eq_true rfl)) dX0_ask_9 ⟨Nat.zero_le _, Nat.zero_le _⟩) hA hw (Sub1.nil _) (fun _ => Sub.nil _) (fun r32 u33 H locs h hw => ?_)
    obtain ⟨_, h⟩ := h
    refine lv_goto (tgt := 16) hx hb dX0_ask_12 (by decide) ?_
    exact join6 r32 _ _ _ h hw (lv_sub hl [0, 1, 2, 4, 5] rfl)
def wX0_stretch : Nat → Bun → Int32 → Int32 → Int32 → Int32 → Int32 → (Bun → Prop) → Prop
  | 0 => fun _ _ _ _ _ _ _ => False
  | d + 1 => fun S a1 a2 a3 a4 a5 post => wjoin (σ := Bun) (fun S1 => ((a2 = (S1 0 4) → post S1) ∧ (¬ (a2 = (S1 0 4)) → (((16 : Int32) ≤ a1 → post S1) ∧ (¬ ((16 : Int32) ≤ a1) → (((S1 0 11) < (S1 0 12) → wloop (σ := Int32 × Bun) (fun K7 z => match z with | (x5, S6) => (((4 : Int32) ≤ x5 → post S6) ∧ (¬ ((4 : Int32) ≤ x5) → vp_in x5 4 ∧ ∀ x14 : Int32, x14 = tbBy x5.toNatClampNeg → wX5_cellTowards a2 x14 (fun r15 => ((r15 < 0 → ∀ x17 : Int32, x17 = x5 + (1 : Int32) → K7 (x17, S6)) ∧ (¬ (r15 < 0) → wX5_holds a3 r15 (fun r19 => ((r19 = 0 → ∀ x33 : Int32, x33 = x5 + (1 : Int32) → K7 (x33, S6)) ∧ (¬ (r19 = 0) → wX5_mayStep (S6 0 0) (S6 0 2) r15 a4 x14 a5 (fun r21 => ((r21 = 0 → ∀ x23 : Int32, x23 = x5 + (1 : Int32) → K7 (x23, S6)) ∧ (¬ (r21 = 0) → wX5_isTurn a4 x14 (fun r25 => wX0_stretch d S6 (a1 + (1 : Int32)) r15 (a3 &&& (((1 : Int32) <<< (r15 &&& 31)) ^^^ (-1 : Int32))) x14 r25 (fun S29 => ∀ x30 : Int32, x30 = x5 + (1 : Int32) → K7 (x30, S29))))))))))))))) ((0 : Int32), S1)) ∧ (¬ ((S1 0 11) < (S1 0 12)) → post S1))))))) (fun J2 => wjoin (σ := Unit) (fun _ => ∀ S44 : Bun, S44 = up S 0 11 (if (S 0 11) < a1 then a1 else (S 0 11)) → J2 S44) (fun J41 => (((S 0 4) < 0 → J41 ()) ∧ (¬ ((S 0 4) < 0) → ((a2 = (S 0 4) → J41 ()) ∧ (¬ (a2 = (S 0 4)) → J2 S))))))
set_option maxRecDepth 100000 in
set_option maxHeartbeats 4000000 in
theorem kX0_stretch (l : Launch) (g : Gl) (aK : Nat → Nat) (aV : Nat → Nat) (q : Nat → Nat) (d : Nat) : ∀ (sz : Nat) (S : Bun) (a1 : Int32) (a2 : Int32) (a3 : Int32) (a4 : Int32) (a5 : Int32) (post : Bun → Prop), wX0_stretch d S a1 a2 a3 a4 a5 post → Met l yX0_stretch wsX0_stretch (rmm (d + 2) (d * 28 + 47)) (wPc g (E5 aK aV) ((wF g q) S) sz [.ref (q 0), .int a1, .int a2, .int a3, .int a4, .int a5]) (va_Qv (fun (u : Bun) => post u) (wB g (wF g q) (va_A ((wF g q) S) sz)) (va_A ((wF g q) S) sz)) 0 0 (va_A ((wF g q) S) sz) := by
  induction d with
  | zero => intro sz S a1 a2 a3 a4 a5 post h; exact absurd h (fun z => z)
  | succ d ihd =>
  intro sz S a1 a2 a3 a4 a5 post h
  refine mstart (Qf := fun A => va_Qv (fun (u : Bun) => post u) (wB g (wF g q) A) A) (by decide) rfl (Nat.le_of_ble_eq_true rfl) ?_
  intro p e s m args below meth c A Q H locs ls hC hr hlocks hname hQ hA hK hE hw hl
  have hC : CallFix p m c cX0_stretch 9 s args wsX0_stretch RX0 := hC
  obtain ⟨hx, hb, -, hown, hts⟩ := id hC
  have hl : lv_has ls 9 [(0, .ref (q 0)), (1, .int a1), (2, .int a2), (3, .int a3), (4, .int a4), (5, .int a5)] := hl
  rw [wX0_stretch] at h
  have hinX0 : ∀ w ∈ wsX00, w ∈ wsX0_stretch := fun w hw9 => List.mem_cons_of_mem _ (List.mem_append_right _ hw9)
  refine lv_aload_n hx hb dX0_stretch_0 rfl (lv_at hl 0 rfl) ?_
  refine F_fg4 hC hinX0 hK hw (List.mem_of_getElem? (i := 1) rfl) dX0_stretch_1 ?_
  obtain ⟨J2, hJ3, h⟩ := h
  have join4 : ∀ (S1 : Bun) (H : Heap) (locs : List Loc) (ls : Array Slot), J2 S1 → Wd g.1 A s.heap ((wF g q) S1) H locs → lv_has ls 9 [(0, .ref (q 0)), (1, .int a1), (2, .int a2), (3, .int a3), (4, .int a4), (5, .int a5)] → W p l e (rmm (d + 1 + 2) ((d + 1) * 28 + 47)) s m args below meth c H locs 0 0 Q (F0 m 27 ls []) := by
    intro S1 H locs ls h hw hl
    replace h := hJ3 S1 h
    refine lv_iload_n hx hb dX0_stretch_27 rfl (lv_at hl 2 rfl) ?_
    refine lv_aload_n hx hb dX0_stretch_28 rfl (lv_at hl 0 rfl) ?_
    refine F_fg4 hC hinX0 hK hw (List.mem_of_getElem? (i := 1) rfl) dX0_stretch_29 ?_
    refine lv_icmp_eq (tgt := 52) hx hb dX0_stretch_32 (by decide) (fun c40 => ?_) (fun c40 => ?_)
    · replace h := h.1 c40
      rw [hQ]
      exact mretv (w := (wF g q)) (u := S1) hC hr hlocks hK hw h dX0_stretch_52
    · replace h := h.2 c40
      refine lv_iload_n hx hb dX0_stretch_35 rfl (lv_at hl 1 rfl) ?_
      refine lv_bipush (v := (16 : Int32)) hx hb dX0_stretch_36 (by decide) ?_
      refine lv_icmp_ge (tgt := 52) hx hb dX0_stretch_38 (by decide) (fun c39 => ?_) (fun c39 => ?_)
      · replace h := h.1 c39
        rw [hQ]
        exact mretv (w := (wF g q)) (u := S1) hC hr hlocks hK hw h dX0_stretch_52
      · replace h := h.2 c39
        refine lv_aload_n hx hb dX0_stretch_41 rfl (lv_at hl 0 rfl) ?_
        refine F_fg11 hC hinX0 hK hw (List.mem_of_getElem? (i := 2) rfl) dX0_stretch_42 ?_
        refine lv_aload_n hx hb dX0_stretch_45 rfl (lv_at hl 0 rfl) ?_
        refine F_fg12 hC hinX0 hK hw (List.mem_of_getElem? (i := 7) rfl) dX0_stretch_46 ?_
        refine lv_icmp_lt (tgt := 53) hx hb dX0_stretch_49 (by decide) (fun c38 => ?_) (fun c38 => ?_)
        · replace h := h.1 c38
          refine lv_iconst (v := (0 : Int32)) hx hb dX0_stretch_53 (by decide) ?_
          refine lv_istore (lv' := [(6, .int (0 : Int32)), (0, .ref (q 0)), (1, .int a1), (2, .int a2), (3, .int a3), (4, .int a4), (5, .int a5)]) hx hb dX0_stretch_54 hl (by decide) rfl (fun ls hl => ?_)
          refine h (fun z => match z with | (x5, S6) => ∀ (H : Heap) (locs : List Loc) (ls : Array Slot), Wd g.1 A s.heap ((wF g q) S6) H locs → lv_has ls 9 [(0, .ref (q 0)), (1, .int a1), (2, .int a2), (3, .int a3), (4, .int a4), (5, .int a5), (6, .int x5)] → W p l e (rmm (d + 1 + 2) ((d + 1) * 28 + 47)) s m args below meth c H locs 0 0 Q (F0 m 56 ls [])) ?_ _ _ _ hw (lv_sub hl [1, 2, 3, 4, 5, 6, 0] rfl)
          clear h hw hl
          rintro ⟨x5, S6⟩ h H locs ls hw hl
          refine lv_iload hx hb dX0_stretch_56 (lv_at hl 6 rfl) ?_
          refine lv_iconst (v := (4 : Int32)) hx hb dX0_stretch_58 (by decide) ?_
          refine lv_icmp_ge (tgt := 149) hx hb dX0_stretch_59 (by decide) (fun c37 => ?_) (fun c37 => ?_)
          · replace h := h.1 c37
            rw [hQ]
            exact mretv (w := (wF g q)) (u := S6) hC hr hlocks hK hw h dX0_stretch_149
          · replace h := h.2 c37
            obtain ⟨t13, hZt13, hTt13⟩ := hE.tbBy
            refine va_gets hx hb hZt13 hw.2.2 hown (hts (.fieldLink RX0 96 "OneFurrow$Furrows" "BY_CELL" "[I") (List.mem_of_getElem? (i := 8) rfl)) (fun _ h9 => h9) dX0_stretch_62 ?_
            refine lv_iload hx hb dX0_stretch_65 (lv_at hl 6 rfl) ?_
            obtain ⟨hi, h⟩ := h
            refine va_ti hx hb hTt13 hw.2.2 hi rfl dX0_stretch_67 ?_
            refine lv_topi (fun x14 ex14 => ?_)
            replace h := h x14 ex14
            refine lv_istore (lv' := [(7, .int x14), (0, .ref (q 0)), (1, .int a1), (2, .int a2), (3, .int a3), (4, .int a4), (5, .int a5), (6, .int x5)]) hx hb dX0_stretch_68 hl (by decide) rfl (fun ls hl => ?_)
            refine lv_iload_n hx hb dX0_stretch_70 rfl (lv_at hl 3 rfl) ?_
            refine lv_iload hx hb dX0_stretch_71 (lv_at hl 0 rfl) ?_
            refine mcalli (w1 := (fun _ => (wF g q) S6)) (wc := fun _ : Unit => ([] : va_W)) (u := ()) (va_runSN (As := [.int a2, .int x14]) (rest := []) hC (kX5_cellTowards l g aK aV H.size a2 x14 _ h) ⟨va_cnB 2 hts gX0_stretch_X5_cellTowards_n99 rfl rfl rfl hE.nMX0_99 (hts (.initialized RX5) (List.mem_of_getElem? (i := 12) rfl)) (by decide +kernel) ⟨by simp only [rmm]; omega, by simp only [rmm]; omega⟩, (hts (.static yX5_cellTowards) (List.mem_of_getElem? (i := 11) rfl)), trivial⟩ (mpre (E5_ok aK aV) hK hE hA hw (Sub1.nil _)) rfl rfl hl.1 rfl (lv_room (Nat.le_of_ble_eq_true rfl)) dX0_stretch_73 ⟨Nat.zero_le _, Nat.zero_le _⟩) hA hw (Sub1.nil _) (fun _ => Sub.nil _) (fun r15 u16 H locs h hw => ?_)
            obtain ⟨_, h⟩ := h
            refine lv_istore (lv' := [(8, .int r15), (7, .int x14), (0, .ref (q 0)), (1, .int a1), (2, .int a2), (3, .int a3), (4, .int a4), (5, .int a5), (6, .int x5)]) hx hb dX0_stretch_76 hl (by decide) rfl (fun ls hl => ?_)
            refine lv_iload hx hb dX0_stretch_78 (lv_at hl 0 rfl) ?_
            refine lv_if_lt (tgt := 143) hx hb dX0_stretch_80 (by decide) (fun c36 => ?_) (fun c36 => ?_)
            · replace h := h.1 c36
              obtain ⟨x17, ex17⟩ : ∃ y : Int32, y = x5 + (1 : Int32) := ⟨_, rfl⟩
              refine lv_iinc (v := x17) (lv' := [(6, .int x17), (8, .int r15), (7, .int x14), (0, .ref (q 0)), (1, .int a1), (2, .int a2), (3, .int a3), (4, .int a4), (5, .int a5)]) hx hb dX0_stretch_143 hl (k := 8) rfl (by rw [ex17]; rfl) (by decide) rfl (fun ls hl => ?_)
              replace h := h x17 ex17
              refine lv_goto (tgt := 56) hx hb dX0_stretch_146 (by decide) ?_
              exact h _ _ _ hw (lv_sub hl [3, 4, 5, 6, 7, 8, 0] rfl)
            · replace h := h.2 c36
              refine lv_iload_n hx hb dX0_stretch_83 rfl (lv_at hl 5 rfl) ?_
              refine lv_iload hx hb dX0_stretch_84 (lv_at hl 0 rfl) ?_
              refine mcalli (w1 := (fun _ => (wF g q) S6)) (wc := fun _ : Unit => ([] : va_W)) (u := ()) (va_runSN (As := [.int a3, .int r15]) (rest := []) hC (kX5_holds l g aK aV H.size a3 r15 _ h) ⟨va_cnB 2 hts gX0_stretch_X5_holds_n86 rfl rfl rfl hE.nMX0_86 (hts (.initialized RX5) (List.mem_of_getElem? (i := 12) rfl)) (by decide +kernel) ⟨by simp only [rmm]; omega, by simp only [rmm]; omega⟩, (hts (.static yX5_holds) (List.mem_of_getElem? (i := 14) rfl)), trivial⟩ (mpre (E5_ok aK aV) hK hE hA hw (Sub1.nil _)) rfl rfl hl.1 rfl (lv_room (Nat.le_of_ble_eq_true rfl)) dX0_stretch_86 ⟨Nat.zero_le _, Nat.zero_le _⟩) hA hw (Sub1.nil _) (fun _ => Sub.nil _) (fun r19 u20 H locs h hw => ?_)
              obtain ⟨_, h⟩ := h
              refine lv_if_ne (tgt := 95) hx hb dX0_stretch_89 (by decide) (fun c35 => ?_) (fun c35 => ?_)
              · replace h := h.2 c35
                refine lv_aload_n hx hb dX0_stretch_95 rfl (lv_at hl 2 rfl) ?_
                refine F_fg0 hC hinX0 hK hw (List.mem_of_getElem? (i := 9) rfl) dX0_stretch_96 ?_
                refine lv_aload_n hx hb dX0_stretch_99 rfl (lv_at hl 2 rfl) ?_
                refine F_fg2 hC hinX0 hK hw (List.mem_of_getElem? (i := 10) rfl) dX0_stretch_100 ?_
                refine lv_iload hx hb dX0_stretch_103 (lv_at hl 0 rfl) ?_
                refine lv_iload hx hb dX0_stretch_105 (lv_at hl 6 rfl) ?_
                refine lv_iload hx hb dX0_stretch_107 (lv_at hl 1 rfl) ?_
                refine lv_iload hx hb dX0_stretch_109 (lv_at hl 7 rfl) ?_
                refine mcalli (w1 := (fun _ => (wF g q) S6)) (wc := fun _ : Unit => ([] : va_W)) (u := ()) (va_runSN (As := [.int (S6 0 0), .int (S6 0 2), .int r15, .int a4, .int x14, .int a5]) (rest := []) hC (kX5_mayStep l g aK aV H.size (S6 0 0) (S6 0 2) r15 a4 x14 a5 _ h) ⟨va_cnB 6 hts gX0_stretch_X5_mayStep_n103 rfl rfl rfl hE.nMX0_103 (hts (.initialized RX5) (List.mem_of_getElem? (i := 12) rfl)) (by decide +kernel) ⟨by simp only [rmm]; omega, by simp only [rmm]; omega⟩, (hts (.static yX5_mayStep) (List.mem_of_getElem? (i := 16) rfl)), trivial⟩ (mpre (E5_ok aK aV) hK hE hA hw (Sub1.nil _)) rfl rfl hl.1 rfl (lv_room (Nat.le_of_ble_eq_true rfl)) dX0_stretch_111 ⟨Nat.zero_le _, Nat.zero_le _⟩) hA hw (Sub1.nil _) (fun _ => Sub.nil _) (fun r21 u22 H locs h hw => ?_)
                obtain ⟨_, h⟩ := h
                refine lv_if_eq (tgt := 143) hx hb dX0_stretch_114 (by decide) (fun c32 => ?_) (fun c32 => ?_)
                · replace h := h.1 c32
                  obtain ⟨x23, ex23⟩ : ∃ y : Int32, y = x5 + (1 : Int32) := ⟨_, rfl⟩
                  refine lv_iinc (v := x23) (lv' := [(6, .int x23), (8, .int r15), (7, .int x14), (0, .ref (q 0)), (1, .int a1), (2, .int a2), (3, .int a3), (4, .int a4), (5, .int a5)]) hx hb dX0_stretch_143 hl (k := 8) rfl (by rw [ex23]; rfl) (by decide) rfl (fun ls hl => ?_)
                  replace h := h x23 ex23
                  refine lv_goto (tgt := 56) hx hb dX0_stretch_146 (by decide) ?_
                  exact h _ _ _ hw (lv_sub hl [3, 4, 5, 6, 7, 8, 0] rfl)
                · replace h := h.2 c32
                  refine lv_aload_n hx hb dX0_stretch_117 rfl (lv_at hl 2 rfl) ?_
                  refine lv_iload_n hx hb dX0_stretch_118 rfl (lv_at hl 3 rfl) ?_
                  refine lv_iconst (v := (1 : Int32)) hx hb dX0_stretch_119 (by decide) ?_
                  refine lv_iadd hx hb dX0_stretch_120 ?_
                  refine lv_iload hx hb dX0_stretch_121 (lv_at hl 0 rfl) ?_
                  refine lv_iload_n hx hb dX0_stretch_123 rfl (lv_at hl 5 rfl) ?_
                  refine lv_iconst (v := (1 : Int32)) hx hb dX0_stretch_124 (by decide) ?_
                  refine lv_iload hx hb dX0_stretch_125 (lv_at hl 0 rfl) ?_
                  refine lv_ishl hx hb dX0_stretch_127 ?_
                  refine lv_iconst (v := (-1 : Int32)) hx hb dX0_stretch_128 (by decide) ?_
                  refine lv_ixor hx hb dX0_stretch_129 ?_
                  refine lv_iand hx hb dX0_stretch_130 ?_
                  refine lv_iload hx hb dX0_stretch_131 (lv_at hl 1 rfl) ?_
                  refine lv_iload hx hb dX0_stretch_133 (lv_at hl 6 rfl) ?_
                  refine lv_iload hx hb dX0_stretch_135 (lv_at hl 1 rfl) ?_
                  refine mcalli (w1 := (fun _ => (wF g q) S6)) (wc := fun _ : Unit => ([] : va_W)) (u := ()) (va_runSN (As := [.int a4, .int x14]) (rest := [.int x14, .int (a3 &&& (((1 : Int32) <<< (r15 &&& 31)) ^^^ (-1 : Int32))), .int r15, .int (a1 + (1 : Int32)), .ref (q 0)]) hC (kX5_isTurn l g aK aV H.size a4 x14 _ h) ⟨va_cnB 2 hts gX0_stretch_X5_isTurn_n107 rfl rfl rfl hE.nMX0_107 (hts (.initialized RX5) (List.mem_of_getElem? (i := 12) rfl)) (by decide +kernel) ⟨by simp only [rmm]; omega, by simp only [rmm]; omega⟩, (hts (.static yX5_isTurn) (List.mem_of_getElem? (i := 19) rfl)), trivial⟩ (mpre (E5_ok aK aV) hK hE hA hw (Sub1.nil _)) rfl rfl hl.1 rfl (lv_room (Nat.le_of_ble_eq_true rfl)) dX0_stretch_137 ⟨Nat.zero_le _, Nat.zero_le _⟩) hA hw (Sub1.nil _) (fun _ => Sub.nil _) (fun r25 u26 H locs h hw => ?_)
                  obtain ⟨_, h⟩ := h
                  refine mcallv (w1 := (wF g q)) (va_runV (As := [.int (a1 + (1 : Int32)), .int r15, .int (a3 &&& (((1 : Int32) <<< (r15 &&& 31)) ^^^ (-1 : Int32))), .int x14, .int r25]) (rest := []) hC (ihd  H.size S6 (a1 + (1 : Int32)) r15 (a3 &&& (((1 : Int32) <<< (r15 &&& 31)) ^^^ (-1 : Int32))) x14 r25 _ h) (cwV 5 hts gX0_stretch_X0_stretch rfl rfl rfl (by decide +kernel) ⟨by simp only [rmm]; omega, by simp only [rmm]; omega⟩) (mpreV (E5_ok aK aV) hK hE hA hw (Sub1.refl _) 0 rfl rfl) rfl rfl hl.1 rfl (lv_room (Nat.le_of_ble_eq_true rfl)) dX0_stretch_140 ⟨Nat.zero_le _, Nat.zero_le _⟩) hA hw (Sub1.refl _) (fun _ => Sub.whole rfl) (fun u28 H locs h hw => ?_)
                  obtain ⟨S29, rfl⟩ : ∃ z, z = u28 := ⟨_, rfl⟩
                  obtain ⟨x30, ex30⟩ : ∃ y : Int32, y = x5 + (1 : Int32) := ⟨_, rfl⟩
                  refine lv_iinc (v := x30) (lv' := [(6, .int x30), (8, .int r15), (7, .int x14), (0, .ref (q 0)), (1, .int a1), (2, .int a2), (3, .int a3), (4, .int a4), (5, .int a5)]) hx hb dX0_stretch_143 hl (k := 8) rfl (by rw [ex30]; rfl) (by decide) rfl (fun ls hl => ?_)
                  replace h := h x30 ex30
                  refine lv_goto (tgt := 56) hx hb dX0_stretch_146 (by decide) ?_
                  exact h _ _ _ hw (lv_sub hl [3, 4, 5, 6, 7, 8, 0] rfl)
              · replace h := h.1 c35
                refine lv_goto (tgt := 143) hx hb dX0_stretch_92 (by decide) ?_
                obtain ⟨x33, ex33⟩ : ∃ y : Int32, y = x5 + (1 : Int32) := ⟨_, rfl⟩
                refine lv_iinc (v := x33) (lv' := [(6, .int x33), (8, .int r15), (7, .int x14), (0, .ref (q 0)), (1, .int a1), (2, .int a2), (3, .int a3), (4, .int a4), (5, .int a5)]) hx hb dX0_stretch_143 hl (k := 8) rfl (by rw [ex33]; rfl) (by decide) rfl (fun ls hl => ?_)
                replace h := h x33 ex33
                refine lv_goto (tgt := 56) hx hb dX0_stretch_146 (by decide) ?_
                exact h _ _ _ hw (lv_sub hl [3, 4, 5, 6, 7, 8, 0] rfl)
        · replace h := h.2 c38
          rw [hQ]
          exact mretv (w := (wF g q)) (u := S1) hC hr hlocks hK hw h dX0_stretch_52
  obtain ⟨J41, hJ42, h⟩ := h
  have join43 : ∀  (H : Heap) (locs : List Loc) (ls : Array Slot), J41 () → Wd g.1 A s.heap ((wF g q) S) H locs → lv_has ls 9 [(0, .ref (q 0)), (1, .int a1), (2, .int a2), (3, .int a3), (4, .int a4), (5, .int a5)] → W p l e (rmm (d + 1 + 2) ((d + 1) * 28 + 47)) s m args below meth c H locs 0 0 Q (F0 m 15 ls []) := by
    intro  H locs ls h hw hl
    replace h := hJ42 () h
    refine lv_aload_n hx hb dX0_stretch_15 rfl (lv_at hl 0 rfl) ?_
    refine lv_aload_n hx hb dX0_stretch_16 rfl (lv_at hl 0 rfl) ?_
    refine F_fg11 hC hinX0 hK hw (List.mem_of_getElem? (i := 2) rfl) dX0_stretch_17 ?_
    refine lv_iload_n hx hb dX0_stretch_20 rfl (lv_at hl 1 rfl) ?_
    refine va_mmax (rest := [.ref (q 0)]) hx hb (hC.2.2.1.trans hl.1.symm) hown (hts (.methodLink RX0 137 Lib.Math.max.name) (List.mem_of_getElem? (i := 3) rfl)) (hts (.static Lib.Math.max.name) (List.mem_of_getElem? (i := 4) rfl)) (hts (.initialized "java/lang/Math") (List.mem_of_getElem? (i := 5) rfl)) (hts (.code Lib.Math.max.name Lib.Math.max.code 2 (some .int)) (List.mem_of_getElem? (i := 6) rfl)) (by simp only [rmm]; omega) (by simp only [rmm, List.map, List.sum_cons, List.sum_nil, Value.category]; omega) (Nat.zero_le _) (Nat.zero_le _) dX0_stretch_21 ?_
    refine F_fp11 hC hinX0 hK hw (List.mem_of_getElem? (i := 2) rfl) dX0_stretch_24 (fun S44 H locs eS44 hw => ?_)
    replace h := h S44 eS44
    exact join4 S44 _ _ _ h hw (lv_sub hl [0, 1, 2, 3, 4, 5] rfl)
  refine lv_if_lt (tgt := 15) hx hb dX0_stretch_4 (by decide) (fun c46 => ?_) (fun c46 => ?_)
  · replace h := h.1 c46
    exact join43  _ _ _ h hw (lv_sub hl [0, 1, 2, 3, 4, 5] rfl)
  · replace h := h.2 c46
    refine lv_iload_n hx hb dX0_stretch_7 rfl (lv_at hl 2 rfl) ?_
    refine lv_aload_n hx hb dX0_stretch_8 rfl (lv_at hl 0 rfl) ?_
    refine F_fg4 hC hinX0 hK hw (List.mem_of_getElem? (i := 1) rfl) dX0_stretch_9 ?_
    refine lv_icmp_ne (tgt := 27) hx hb dX0_stretch_12 (by decide) (fun c45 => ?_) (fun c45 => ?_)
    · replace h := h.2 c45
      exact join4 S _ _ _ h hw (lv_sub hl [0, 1, 2, 3, 4, 5] rfl)
    · replace h := h.1 c45
      exact join43  _ _ _ h hw (lv_sub hl [0, 1, 2, 3, 4, 5] rfl)
def wX0_searchLongest (S : Bun)  (post : Bun → Prop) : Prop :=
  (((S 0 6) ≤ 0 → ∀ S1 : Bun, S1 = up S 0 11 (0 : Int32) → wJ6_bitCount_0f7a4 ((S1 0 1) &&& (42405 : Int32)) (fun r2 => ∀ S4 : Bun, S4 = up S1 0 12 (if (((2 : Int32) * (if ((S1 0 5) - r2) < r2 then ((S1 0 5) - r2) else r2)) + (1 : Int32)) < ((S1 0 5) - (1 : Int32)) then (((2 : Int32) * (if ((S1 0 5) - r2) < r2 then ((S1 0 5) - r2) else r2)) + (1 : Int32)) else ((S1 0 5) - (1 : Int32))) → wloop (σ := Int32 × Bun) (fun K7 z => match z with | (x5, S6) => (((16 : Int32) ≤ x5 → post S6) ∧ (¬ ((16 : Int32) ≤ x5) → wX0_mayBegin S6 x5 (fun r13 => ((r13 = 0 → ∀ x15 : Int32, x15 = x5 + (1 : Int32) → K7 (x15, S6)) ∧ (¬ (r13 = 0) → wX0_stretch 17 S6 (1 : Int32) x5 ((S6 0 1) &&& (((1 : Int32) <<< (x5 &&& 31)) ^^^ (-1 : Int32))) (-1 : Int32) (0 : Int32) (fun S19 => ∀ x20 : Int32, x20 = x5 + (1 : Int32) → K7 (x20, S19)))))))) ((0 : Int32), S4))) ∧ (¬ ((S 0 6) ≤ 0) → ∀ S24 : Bun, S24 = up S 0 11 (S 0 5) → post S24))
set_option maxRecDepth 100000 in
set_option maxHeartbeats 4000000 in
theorem kX0_searchLongest (l : Launch) (g : Gl) (aK : Nat → Nat) (aV : Nat → Nat) (q : Nat → Nat) (sz : Nat) (S : Bun)  (post : Bun → Prop) (h : wX0_searchLongest S  post) : Met l yX0_searchLongest wsX0_searchLongest (rmm 20 551) (wPc g (E5 aK aV) ((wF g q) S) sz [.ref (q 0)]) (va_Qv (fun (u : Bun) => post u) (wB g (wF g q) (va_A ((wF g q) S) sz)) (va_A ((wF g q) S) sz)) 0 0 (va_A ((wF g q) S) sz) := by
  refine mstart (Qf := fun A => va_Qv (fun (u : Bun) => post u) (wB g (wF g q) A) A) (by decide) rfl (Nat.le_of_ble_eq_true rfl) ?_
  intro p e s m args below meth c A Q H locs ls hC hr hlocks hname hQ hA hK hE hw hl
  have hC : CallFix p m c cX0_searchLongest 3 s args wsX0_searchLongest RX0 := hC
  obtain ⟨hx, hb, -, hown, hts⟩ := id hC
  have hl : lv_has ls 3 [(0, .ref (q 0))] := hl
  rw [wX0_searchLongest] at h
  have hinX0 : ∀ w ∈ wsX00, w ∈ wsX0_searchLongest := fun w hw9 => List.mem_cons_of_mem _ (List.mem_append_right _ hw9)
  refine lv_aload_n hx hb dX0_searchLongest_0 rfl (lv_at hl 0 rfl) ?_
  refine F_fg6 hC hinX0 hK hw (List.mem_of_getElem? (i := 1) rfl) dX0_searchLongest_1 ?_
  refine lv_if_le (tgt := 16) hx hb dX0_searchLongest_4 (by decide) (fun c25 => ?_) (fun c25 => ?_)
  · replace h := h.1 c25
    refine lv_aload_n hx hb dX0_searchLongest_16 rfl (lv_at hl 0 rfl) ?_
    refine lv_iconst (v := (0 : Int32)) hx hb dX0_searchLongest_17 (by decide) ?_
    refine F_fp11 hC hinX0 hK hw (List.mem_of_getElem? (i := 3) rfl) dX0_searchLongest_18 (fun S1 H locs eS1 hw => ?_)
    replace h := h S1 eS1
    refine lv_aload_n hx hb dX0_searchLongest_21 rfl (lv_at hl 0 rfl) ?_
    refine F_fg1 hC hinX0 hK hw (List.mem_of_getElem? (i := 4) rfl) dX0_searchLongest_22 ?_
    refine lv_ldc (v := (42405 : Int32)) hx hb hown (hts (.constant RX0 124 (42405)) (List.mem_of_getElem? (i := 5) rfl)) dX0_searchLongest_25 ?_
    refine lv_iand hx hb dX0_searchLongest_27 ?_
    refine mcalli (w1 := (fun _ => (wF g q) S1)) (wc := fun _ : Unit => ([] : va_W)) (u := ()) (va_runS (As := [.int ((S1 0 1) &&& (42405 : Int32))]) (rest := []) hC (kJ6_bitCount_0f7a4 l g aK aV H.size ((S1 0 1) &&& (42405 : Int32)) _ h) (va_cwS 1 hts gX0_searchLongest_J6_bitCount_0f7a4 rfl rfl rfl (by decide +kernel) ⟨Nat.le_of_ble_eq_true rfl, Nat.le_of_ble_eq_true rfl⟩) (mpre (E5_ok aK aV) hK hE hA hw (Sub1.nil _)) rfl rfl hl.1 rfl (lv_room (Nat.le_of_ble_eq_true rfl)) dX0_searchLongest_28 ⟨Nat.zero_le _, Nat.zero_le _⟩) hA hw (Sub1.nil _) (fun _ => Sub.nil _) (fun r2 u3 H locs h hw => ?_)
    obtain ⟨_, h⟩ := h
    refine lv_istore_n (lv' := [(1, .int r2), (0, .ref (q 0))]) hx hb dX0_searchLongest_31 rfl hl (by decide) rfl (fun ls hl => ?_)
    refine lv_aload_n hx hb dX0_searchLongest_32 rfl (lv_at hl 1 rfl) ?_
    refine lv_aload_n hx hb dX0_searchLongest_33 rfl (lv_at hl 1 rfl) ?_
    refine F_fg5 hC hinX0 hK hw (List.mem_of_getElem? (i := 2) rfl) dX0_searchLongest_34 ?_
    refine lv_iconst (v := (1 : Int32)) hx hb dX0_searchLongest_37 (by decide) ?_
    refine lv_isub hx hb dX0_searchLongest_38 ?_
    refine lv_iconst (v := (2 : Int32)) hx hb dX0_searchLongest_39 (by decide) ?_
    refine lv_iload_n hx hb dX0_searchLongest_40 rfl (lv_at hl 0 rfl) ?_
    refine lv_aload_n hx hb dX0_searchLongest_41 rfl (lv_at hl 1 rfl) ?_
    refine F_fg5 hC hinX0 hK hw (List.mem_of_getElem? (i := 2) rfl) dX0_searchLongest_42 ?_
    refine lv_iload_n hx hb dX0_searchLongest_45 rfl (lv_at hl 0 rfl) ?_
    refine lv_isub hx hb dX0_searchLongest_46 ?_
    refine va_mmin (rest := [.int (2 : Int32), .int ((S1 0 5) - (1 : Int32)), .ref (q 0)]) hx hb (hC.2.2.1.trans hl.1.symm) hown (hts (.methodLink RX0 125 Lib.Math.min.name) (List.mem_of_getElem? (i := 6) rfl)) (hts (.static Lib.Math.min.name) (List.mem_of_getElem? (i := 7) rfl)) (hts (.initialized "java/lang/Math") (List.mem_of_getElem? (i := 8) rfl)) (hts (.code Lib.Math.min.name Lib.Math.min.code 2 (some .int)) (List.mem_of_getElem? (i := 9) rfl)) (Nat.le_of_ble_eq_true rfl) (Nat.le_of_ble_eq_true rfl) (Nat.zero_le _) (Nat.zero_le _) dX0_searchLongest_47 ?_
    refine lv_imul hx hb dX0_searchLongest_50 ?_
    refine lv_iconst (v := (1 : Int32)) hx hb dX0_searchLongest_51 (by decide) ?_
    refine lv_iadd hx hb dX0_searchLongest_52 ?_
    refine va_mmin (rest := [.ref (q 0)]) hx hb (hC.2.2.1.trans hl.1.symm) hown (hts (.methodLink RX0 125 Lib.Math.min.name) (List.mem_of_getElem? (i := 6) rfl)) (hts (.static Lib.Math.min.name) (List.mem_of_getElem? (i := 7) rfl)) (hts (.initialized "java/lang/Math") (List.mem_of_getElem? (i := 8) rfl)) (hts (.code Lib.Math.min.name Lib.Math.min.code 2 (some .int)) (List.mem_of_getElem? (i := 9) rfl)) (Nat.le_of_ble_eq_true rfl) (Nat.le_of_ble_eq_true rfl) (Nat.zero_le _) (Nat.zero_le _) dX0_searchLongest_53 ?_
    refine F_fp12 hC hinX0 hK hw (List.mem_of_getElem? (i := 10) rfl) dX0_searchLongest_56 (fun S4 H locs eS4 hw => ?_)
    replace h := h S4 eS4
    refine lv_iconst (v := (0 : Int32)) hx hb dX0_searchLongest_59 (by decide) ?_
    refine lv_istore_n (lv' := [(2, .int (0 : Int32)), (1, .int r2), (0, .ref (q 0))]) hx hb dX0_searchLongest_60 rfl hl (by decide) rfl (fun ls hl => ?_)
    refine h (fun z => match z with | (x5, S6) => ∀ (H : Heap) (locs : List Loc) (ls : Array Slot), Wd g.1 A s.heap ((wF g q) S6) H locs → lv_has ls 3 [(0, .ref (q 0)), (2, .int x5)] → W p l e (rmm 20 551) s m args below meth c H locs 0 0 Q (F0 m 61 ls [])) ?_ _ _ _ hw (lv_sub hl [2, 0] rfl)
    clear h hw hl
    rintro ⟨x5, S6⟩ h H locs ls hw hl
    refine lv_iload_n hx hb dX0_searchLongest_61 rfl (lv_at hl 1 rfl) ?_
    refine lv_bipush (v := (16 : Int32)) hx hb dX0_searchLongest_62 (by decide) ?_
    refine lv_icmp_ge (tgt := 99) hx hb dX0_searchLongest_64 (by decide) (fun c23 => ?_) (fun c23 => ?_)
    · replace h := h.1 c23
      rw [hQ]
      exact mretv (w := (wF g q)) (u := S6) hC hr hlocks hK hw h dX0_searchLongest_99
    · replace h := h.2 c23
      refine lv_aload_n hx hb dX0_searchLongest_67 rfl (lv_at hl 0 rfl) ?_
      refine lv_iload_n hx hb dX0_searchLongest_68 rfl (lv_at hl 1 rfl) ?_
      refine mcalli (w1 := (wF g q)) (va_runV (As := [.int x5]) (rest := []) hC (kX0_mayBegin l g aK aV q H.size S6 x5 _ h) (cwV 1 hts gX0_searchLongest_X0_mayBegin rfl rfl rfl (by decide +kernel) ⟨Nat.le_of_ble_eq_true rfl, Nat.le_of_ble_eq_true rfl⟩) (mpreV (E5_ok aK aV) hK hE hA hw (Sub1.refl _) 0 rfl rfl) rfl rfl hl.1 rfl (lv_room (Nat.le_of_ble_eq_true rfl)) dX0_searchLongest_69 ⟨Nat.zero_le _, Nat.zero_le _⟩) hA hw (Sub1.refl _) (fun _ => Sub.whole rfl) (fun r13 u14 H locs h hw => ?_)
      obtain ⟨hu, h⟩ := h
      replace hu := hu.symm
      subst hu
      refine lv_if_eq (tgt := 93) hx hb dX0_searchLongest_72 (by decide) (fun c22 => ?_) (fun c22 => ?_)
      · replace h := h.1 c22
        obtain ⟨x15, ex15⟩ : ∃ y : Int32, y = x5 + (1 : Int32) := ⟨_, rfl⟩
        refine lv_iinc (v := x15) (lv' := [(2, .int x15), (0, .ref (q 0))]) hx hb dX0_searchLongest_93 hl (k := 1) rfl (by rw [ex15]; rfl) (by decide) rfl (fun ls hl => ?_)
        replace h := h x15 ex15
        refine lv_goto (tgt := 61) hx hb dX0_searchLongest_96 (by decide) ?_
        exact h _ _ _ hw (lv_sub hl [1, 0] rfl)
      · replace h := h.2 c22
        refine lv_aload_n hx hb dX0_searchLongest_75 rfl (lv_at hl 0 rfl) ?_
        refine lv_iconst (v := (1 : Int32)) hx hb dX0_searchLongest_76 (by decide) ?_
        refine lv_iload_n hx hb dX0_searchLongest_77 rfl (lv_at hl 1 rfl) ?_
        refine lv_aload_n hx hb dX0_searchLongest_78 rfl (lv_at hl 0 rfl) ?_
        refine F_fg1 hC hinX0 hK hw (List.mem_of_getElem? (i := 4) rfl) dX0_searchLongest_79 ?_
        refine lv_iconst (v := (1 : Int32)) hx hb dX0_searchLongest_82 (by decide) ?_
        refine lv_iload_n hx hb dX0_searchLongest_83 rfl (lv_at hl 1 rfl) ?_
        refine lv_ishl hx hb dX0_searchLongest_84 ?_
        refine lv_iconst (v := (-1 : Int32)) hx hb dX0_searchLongest_85 (by decide) ?_
        refine lv_ixor hx hb dX0_searchLongest_86 ?_
        refine lv_iand hx hb dX0_searchLongest_87 ?_
        refine lv_iconst (v := (-1 : Int32)) hx hb dX0_searchLongest_88 (by decide) ?_
        refine lv_iconst (v := (0 : Int32)) hx hb dX0_searchLongest_89 (by decide) ?_
        refine mcallv (w1 := (wF g q)) (va_runV (As := [.int (1 : Int32), .int x5, .int ((S6 0 1) &&& (((1 : Int32) <<< (x5 &&& 31)) ^^^ (-1 : Int32))), .int (-1 : Int32), .int (0 : Int32)]) (rest := []) hC (kX0_stretch l g aK aV q 17 H.size S6 (1 : Int32) x5 ((S6 0 1) &&& (((1 : Int32) <<< (x5 &&& 31)) ^^^ (-1 : Int32))) (-1 : Int32) (0 : Int32) _ h) (cwV 5 hts gX0_searchLongest_X0_stretch rfl rfl rfl (by decide +kernel) ⟨Nat.le_of_ble_eq_true rfl, Nat.le_of_ble_eq_true rfl⟩) (mpreV (E5_ok aK aV) hK hE hA hw (Sub1.refl _) 0 rfl rfl) rfl rfl hl.1 rfl (lv_room (Nat.le_of_ble_eq_true rfl)) dX0_searchLongest_90 ⟨Nat.zero_le _, Nat.zero_le _⟩) hA hw (Sub1.refl _) (fun _ => Sub.whole rfl) (fun u18 H locs h hw => ?_)
        obtain ⟨S19, rfl⟩ : ∃ z, z = u18 := ⟨_, rfl⟩
        obtain ⟨x20, ex20⟩ : ∃ y : Int32, y = x5 + (1 : Int32) := ⟨_, rfl⟩
        refine lv_iinc (v := x20) (lv' := [(2, .int x20), (0, .ref (q 0))]) hx hb dX0_searchLongest_93 hl (k := 1) rfl (by rw [ex20]; rfl) (by decide) rfl (fun ls hl => ?_)
        replace h := h x20 ex20
        refine lv_goto (tgt := 61) hx hb dX0_searchLongest_96 (by decide) ?_
        exact h _ _ _ hw (lv_sub hl [1, 0] rfl)
  · replace h := h.2 c25
    refine lv_aload_n hx hb dX0_searchLongest_7 rfl (lv_at hl 0 rfl) ?_
    refine lv_aload_n hx hb dX0_searchLongest_8 rfl (lv_at hl 0 rfl) ?_
    refine F_fg5 hC hinX0 hK hw (List.mem_of_getElem? (i := 2) rfl) dX0_searchLongest_9 ?_
    refine F_fp11 hC hinX0 hK hw (List.mem_of_getElem? (i := 3) rfl) dX0_searchLongest_12 (fun S24 H locs eS24 hw => ?_)
    replace h := h S24 eS24
    rw [hQ]
    exact mretv (w := (wF g q)) (u := S24) hC hr hlocks hK hw h dX0_searchLongest_15
def wX0_longest (S : Bun)  (post : Int32 → Bun → Prop) : Prop :=
  wjoin (σ := Bun) (fun S1 => post (S1 0 11) S1) (fun J2 => (((S 0 11) = (-1 : Int32) → wX0_searchLongest S  (fun S7 => J2 S7)) ∧ (¬ ((S 0 11) = (-1 : Int32)) → J2 S)))
set_option maxRecDepth 100000 in
set_option maxHeartbeats 4000000 in
theorem kX0_longest (l : Launch) (g : Gl) (aK : Nat → Nat) (aV : Nat → Nat) (q : Nat → Nat) (sz : Nat) (S : Bun)  (post : Int32 → Bun → Prop) (h : wX0_longest S  post) : Met l yX0_longest wsX0_longest (rmm 21 573) (wPc g (E5 aK aV) ((wF g q) S) sz [.ref (q 0)]) (va_Qi (fun (r : Int32) (u : Bun) => post r u) (wB g (wF g q) (va_A ((wF g q) S) sz)) (va_A ((wF g q) S) sz)) 0 0 (va_A ((wF g q) S) sz) := by
  refine mstart (Qf := fun A => va_Qi (fun (r : Int32) (u : Bun) => post r u) (wB g (wF g q) A) A) (by decide) rfl (Nat.le_of_ble_eq_true rfl) ?_
  intro p e s m args below meth c A Q H locs ls hC hr hlocks hname hQ hA hK hE hw hl
  have hC : CallFix p m c cX0_longest 1 s args wsX0_longest RX0 := hC
  obtain ⟨hx, hb, -, hown, hts⟩ := id hC
  have hl : lv_has ls 1 [(0, .ref (q 0))] := hl
  rw [wX0_longest] at h
  have hinX0 : ∀ w ∈ wsX00, w ∈ wsX0_longest := fun w hw9 => List.mem_cons_of_mem _ (List.mem_append_right _ hw9)
  refine lv_aload_n hx hb dX0_longest_0 rfl (lv_at hl 0 rfl) ?_
  refine F_fg11 hC hinX0 hK hw (List.mem_of_getElem? (i := 1) rfl) dX0_longest_1 ?_
  refine lv_iconst (v := (-1 : Int32)) hx hb dX0_longest_4 (by decide) ?_
  obtain ⟨J2, hJ3, h⟩ := h
  have join4 : ∀ (S1 : Bun) (H : Heap) (locs : List Loc) (ls : Array Slot), J2 S1 → Wd g.1 A s.heap ((wF g q) S1) H locs → lv_has ls 1 [(0, .ref (q 0))] → W p l e (rmm 21 573) s m args below meth c H locs 0 0 Q (F0 m 12 ls []) := by
    intro S1 H locs ls h hw hl
    replace h := hJ3 S1 h
    refine lv_aload_n hx hb dX0_longest_12 rfl (lv_at hl 0 rfl) ?_
    refine F_fg11 hC hinX0 hK hw (List.mem_of_getElem? (i := 1) rfl) dX0_longest_13 ?_
    rw [hQ]
    exact mreti (w := (wF g q)) (u := S1) hC hr hlocks hK hw h dX0_longest_16
  refine lv_icmp_ne (tgt := 12) hx hb dX0_longest_5 (by decide) (fun c8 => ?_) (fun c8 => ?_)
  · replace h := h.2 c8
    exact join4 S _ _ _ h hw (lv_sub hl [0] rfl)
  · replace h := h.1 c8
    refine lv_aload_n hx hb dX0_longest_8 rfl (lv_at hl 0 rfl) ?_
    refine mcallv (w1 := (wF g q)) (va_runV (As := []) (rest := []) hC (kX0_searchLongest l g aK aV q H.size S  _ h) (cwV 0 hts gX0_longest_X0_searchLongest rfl rfl rfl (by decide +kernel) ⟨Nat.le_of_ble_eq_true rfl, Nat.le_of_ble_eq_true rfl⟩) (mpreV (E5_ok aK aV) hK hE hA hw (Sub1.refl _) 0 rfl rfl) rfl rfl hl.1 rfl (lv_room (Nat.le_of_ble_eq_true rfl)) dX0_longest_9 ⟨Nat.zero_le _, Nat.zero_le _⟩) hA hw (Sub1.refl _) (fun _ => Sub.whole rfl) (fun u6 H locs h hw => ?_)
    obtain ⟨S7, rfl⟩ : ∃ z, z = u6 := ⟨_, rfl⟩
    exact join4 S7 _ _ _ h hw (lv_sub hl [0] rfl)
def wX1_hasField (S : Bun) (a1 : Int32) (post : Int32 → Prop) : Prop :=
  ((a1 < 0 → post (0 : Int32)) ∧ (¬ (a1 < 0) → (((S 0 0) ≤ a1 → post (0 : Int32)) ∧ (¬ ((S 0 0) ≤ a1) → post (1 : Int32)))))
set_option maxRecDepth 100000 in
set_option maxHeartbeats 4000000 in
theorem kX1_hasField (l : Launch) (g : Gl) (aK : Nat → Nat) (aV : Nat → Nat) (q : Nat → Nat) (sz : Nat) (S : Bun) (a1 : Int32) (post : Int32 → Prop) (h : wX1_hasField S a1 post) : Met l yX1_hasField wsX1_hasField (rmm 0 0) (wPc g (E5 aK aV) ((wP g q) S) sz [.ref (q 0), .int a1]) (va_Qi (fun (r : Int32) (u : Bun) => u = S ∧ post r) (wB g (wP g q) (va_A ((wP g q) S) sz)) (va_A ((wP g q) S) sz)) 0 0 (va_A ((wP g q) S) sz) := by
  refine mstart (Qf := fun A => va_Qi (fun (r : Int32) (u : Bun) => u = S ∧ post r) (wB g (wP g q) A) A) (by decide) rfl (Nat.le_of_ble_eq_true rfl) ?_
  intro p e s m args below meth c A Q H locs ls hC hr hlocks hname hQ hA hK hE hw hl
  have hC : CallFix p m c cX1_hasField 2 s args wsX1_hasField RX1 := hC
  obtain ⟨hx, hb, -, hown, hts⟩ := id hC
  have hl : lv_has ls 2 [(0, .ref (q 0)), (1, .int a1)] := hl
  rw [wX1_hasField] at h
  have hinX1 : ∀ w ∈ wsX10, w ∈ wsX1_hasField := fun w hw9 => List.mem_cons_of_mem _ (List.mem_append_right _ hw9)
  refine lv_iload_n hx hb dX1_hasField_0 rfl (lv_at hl 1 rfl) ?_
  refine lv_if_lt (tgt := 16) hx hb dX1_hasField_1 (by decide) (fun c2 => ?_) (fun c2 => ?_)
  · replace h := h.1 c2
    refine lv_iconst (v := (0 : Int32)) hx hb dX1_hasField_16 (by decide) ?_
    rw [hQ]
    exact mretz (w := (wP g q)) (u := S) hC hr hlocks hK hw (Or.inl rfl) ⟨rfl, h⟩ dX1_hasField_17
  · replace h := h.2 c2
    refine lv_iload_n hx hb dX1_hasField_4 rfl (lv_at hl 1 rfl) ?_
    refine lv_aload_n hx hb dX1_hasField_5 rfl (lv_at hl 0 rfl) ?_
    refine P_pg0 hC hinX1 hK hw (List.mem_of_getElem? (i := 1) rfl) dX1_hasField_6 ?_
    refine lv_icmp_ge (tgt := 16) hx hb dX1_hasField_9 (by decide) (fun c1 => ?_) (fun c1 => ?_)
    · replace h := h.1 c1
      refine lv_iconst (v := (0 : Int32)) hx hb dX1_hasField_16 (by decide) ?_
      rw [hQ]
      exact mretz (w := (wP g q)) (u := S) hC hr hlocks hK hw (Or.inl rfl) ⟨rfl, h⟩ dX1_hasField_17
    · replace h := h.2 c1
      refine lv_iconst (v := (1 : Int32)) hx hb dX1_hasField_12 (by decide) ?_
      refine lv_goto (tgt := 17) hx hb dX1_hasField_13 (by decide) ?_
      rw [hQ]
      exact mretz (w := (wP g q)) (u := S) hC hr hlocks hK hw (Or.inr rfl) ⟨rfl, h⟩ dX1_hasField_17
def wX1_hasTeam (S : Bun) (a1 : Int32) (post : Int32 → Prop) : Prop :=
  ((a1 < 0 → post (0 : Int32)) ∧ (¬ (a1 < 0) → (((S 0 1) ≤ a1 → post (0 : Int32)) ∧ (¬ ((S 0 1) ≤ a1) → post (1 : Int32)))))
set_option maxRecDepth 100000 in
set_option maxHeartbeats 4000000 in
theorem kX1_hasTeam (l : Launch) (g : Gl) (aK : Nat → Nat) (aV : Nat → Nat) (q : Nat → Nat) (sz : Nat) (S : Bun) (a1 : Int32) (post : Int32 → Prop) (h : wX1_hasTeam S a1 post) : Met l yX1_hasTeam wsX1_hasTeam (rmm 0 0) (wPc g (E5 aK aV) ((wP g q) S) sz [.ref (q 0), .int a1]) (va_Qi (fun (r : Int32) (u : Bun) => u = S ∧ post r) (wB g (wP g q) (va_A ((wP g q) S) sz)) (va_A ((wP g q) S) sz)) 0 0 (va_A ((wP g q) S) sz) := by
  refine mstart (Qf := fun A => va_Qi (fun (r : Int32) (u : Bun) => u = S ∧ post r) (wB g (wP g q) A) A) (by decide) rfl (Nat.le_of_ble_eq_true rfl) ?_
  intro p e s m args below meth c A Q H locs ls hC hr hlocks hname hQ hA hK hE hw hl
  have hC : CallFix p m c cX1_hasTeam 2 s args wsX1_hasTeam RX1 := hC
  obtain ⟨hx, hb, -, hown, hts⟩ := id hC
  have hl : lv_has ls 2 [(0, .ref (q 0)), (1, .int a1)] := hl
  rw [wX1_hasTeam] at h
  have hinX1 : ∀ w ∈ wsX10, w ∈ wsX1_hasTeam := fun w hw9 => List.mem_cons_of_mem _ (List.mem_append_right _ hw9)
  refine lv_iload_n hx hb dX1_hasTeam_0 rfl (lv_at hl 1 rfl) ?_
  refine lv_if_lt (tgt := 16) hx hb dX1_hasTeam_1 (by decide) (fun c2 => ?_) (fun c2 => ?_)
  · replace h := h.1 c2
    refine lv_iconst (v := (0 : Int32)) hx hb dX1_hasTeam_16 (by decide) ?_
    rw [hQ]
    exact mretz (w := (wP g q)) (u := S) hC hr hlocks hK hw (Or.inl rfl) ⟨rfl, h⟩ dX1_hasTeam_17
  · replace h := h.2 c2
    refine lv_iload_n hx hb dX1_hasTeam_4 rfl (lv_at hl 1 rfl) ?_
    refine lv_aload_n hx hb dX1_hasTeam_5 rfl (lv_at hl 0 rfl) ?_
    refine P_pg1 hC hinX1 hK hw (List.mem_of_getElem? (i := 1) rfl) dX1_hasTeam_6 ?_
    refine lv_icmp_ge (tgt := 16) hx hb dX1_hasTeam_9 (by decide) (fun c1 => ?_) (fun c1 => ?_)
    · replace h := h.1 c1
      refine lv_iconst (v := (0 : Int32)) hx hb dX1_hasTeam_16 (by decide) ?_
      rw [hQ]
      exact mretz (w := (wP g q)) (u := S) hC hr hlocks hK hw (Or.inl rfl) ⟨rfl, h⟩ dX1_hasTeam_17
    · replace h := h.2 c1
      refine lv_iconst (v := (1 : Int32)) hx hb dX1_hasTeam_12 (by decide) ?_
      refine lv_goto (tgt := 17) hx hb dX1_hasTeam_13 (by decide) ?_
      rw [hQ]
      exact mretz (w := (wP g q)) (u := S) hC hr hlocks hK hw (Or.inr rfl) ⟨rfl, h⟩ dX1_hasTeam_17
def wX1_mark (S : Bun) (a1 : Int32) (a2 : Int32) (post : Int32 → Prop) : Prop :=
  vp_in ((a1 * (6 : Int32)) + a2) 36 ∧ post (S 3 ((a1 * (6 : Int32)) + a2).toNatClampNeg)
set_option maxRecDepth 100000 in
set_option maxHeartbeats 4000000 in
theorem kX1_mark (l : Launch) (g : Gl) (aK : Nat → Nat) (aV : Nat → Nat) (q : Nat → Nat) (sz : Nat) (S : Bun) (a1 : Int32) (a2 : Int32) (post : Int32 → Prop) (h : wX1_mark S a1 a2 post) : Met l yX1_mark wsX1_mark (rmm 0 0) (wPc g (E5 aK aV) ((wP g q) S) sz [.ref (q 0), .int a1, .int a2]) (va_Qi (fun (r : Int32) (u : Bun) => u = S ∧ post r) (wB g (wP g q) (va_A ((wP g q) S) sz)) (va_A ((wP g q) S) sz)) 0 0 (va_A ((wP g q) S) sz) := by
  refine mstart (Qf := fun A => va_Qi (fun (r : Int32) (u : Bun) => u = S ∧ post r) (wB g (wP g q) A) A) (by decide) rfl (Nat.le_of_ble_eq_true rfl) ?_
  intro p e s m args below meth c A Q H locs ls hC hr hlocks hname hQ hA hK hE hw hl
  have hC : CallFix p m c cX1_mark 3 s args wsX1_mark RX1 := hC
  obtain ⟨hx, hb, -, hown, hts⟩ := id hC
  have hl : lv_has ls 3 [(0, .ref (q 0)), (1, .int a1), (2, .int a2)] := hl
  rw [wX1_mark] at h
  have hinX1 : ∀ w ∈ wsX10, w ∈ wsX1_mark := fun w hw9 => List.mem_cons_of_mem _ (List.mem_append_right _ hw9)
  refine lv_aload_n hx hb dX1_mark_0 rfl (lv_at hl 0 rfl) ?_
  refine P_pg2 hC hinX1 hK hw (List.mem_of_getElem? (i := 1) rfl) dX1_mark_1 ?_
  refine lv_iload_n hx hb dX1_mark_4 rfl (lv_at hl 1 rfl) ?_
  refine lv_bipush (v := (6 : Int32)) hx hb dX1_mark_5 (by decide) ?_
  refine lv_imul hx hb dX1_mark_7 ?_
  refine lv_iload_n hx hb dX1_mark_8 rfl (lv_at hl 2 rfl) ?_
  refine lv_iadd hx hb dX1_mark_9 ?_
  obtain ⟨hi, h⟩ := h
  refine P_pl2 hC hK hw hi dX1_mark_10 ?_
  rw [hQ]
  exact mreti (w := (wP g q)) (u := S) hC hr hlocks hK hw ⟨rfl, h⟩ dX1_mark_11
def wX1_putMark (S : Bun) (a1 : Int32) (a2 : Int32) (a3 : Int32) (post : Bun → Prop) : Prop :=
  vp_in ((a1 * (6 : Int32)) + a2) 36 ∧ ∀ S1 : Bun, S1 = up S 3 ((a1 * (6 : Int32)) + a2).toNatClampNeg a3 → post S1
set_option maxRecDepth 100000 in
set_option maxHeartbeats 4000000 in
theorem kX1_putMark (l : Launch) (g : Gl) (aK : Nat → Nat) (aV : Nat → Nat) (q : Nat → Nat) (sz : Nat) (S : Bun) (a1 : Int32) (a2 : Int32) (a3 : Int32) (post : Bun → Prop) (h : wX1_putMark S a1 a2 a3 post) : Met l yX1_putMark wsX1_putMark (rmm 0 0) (wPc g (E5 aK aV) ((wP g q) S) sz [.ref (q 0), .int a1, .int a2, .int a3]) (va_Qv (fun (u : Bun) => post u) (wB g (wP g q) (va_A ((wP g q) S) sz)) (va_A ((wP g q) S) sz)) 0 0 (va_A ((wP g q) S) sz) := by
  refine mstart (Qf := fun A => va_Qv (fun (u : Bun) => post u) (wB g (wP g q) A) A) (by decide) rfl (Nat.le_of_ble_eq_true rfl) ?_
  intro p e s m args below meth c A Q H locs ls hC hr hlocks hname hQ hA hK hE hw hl
  have hC : CallFix p m c cX1_putMark 4 s args wsX1_putMark RX1 := hC
  obtain ⟨hx, hb, -, hown, hts⟩ := id hC
  have hl : lv_has ls 4 [(0, .ref (q 0)), (1, .int a1), (2, .int a2), (3, .int a3)] := hl
  rw [wX1_putMark] at h
  have hinX1 : ∀ w ∈ wsX10, w ∈ wsX1_putMark := fun w hw9 => List.mem_cons_of_mem _ (List.mem_append_right _ hw9)
  refine lv_aload_n hx hb dX1_putMark_0 rfl (lv_at hl 0 rfl) ?_
  refine P_pg2 hC hinX1 hK hw (List.mem_of_getElem? (i := 1) rfl) dX1_putMark_1 ?_
  refine lv_iload_n hx hb dX1_putMark_4 rfl (lv_at hl 1 rfl) ?_
  refine lv_bipush (v := (6 : Int32)) hx hb dX1_putMark_5 (by decide) ?_
  refine lv_imul hx hb dX1_putMark_7 ?_
  refine lv_iload_n hx hb dX1_putMark_8 rfl (lv_at hl 2 rfl) ?_
  refine lv_iadd hx hb dX1_putMark_9 ?_
  refine lv_iload_n hx hb dX1_putMark_10 rfl (lv_at hl 3 rfl) ?_
  obtain ⟨hi, h⟩ := h
  refine P_ps2 hC hK hw hi dX1_putMark_11 (fun S1 H locs eS1 hw => ?_)
  replace h := h S1 eS1
  rw [hQ]
  exact mretv (w := (wP g q)) (u := S1) hC hr hlocks hK hw h dX1_putMark_12
def wX1_earth (S : Bun) (a1 : Int32) (post : Int32 → Prop) : Prop :=
  wX1_mark S a1 (0 : Int32) (fun r1 => wX1_mark S a1 (1 : Int32) (fun r3 => post ((65535 : Int32) &&& ((r1 ||| r3) ^^^ (-1 : Int32)))))
set_option maxRecDepth 100000 in
set_option maxHeartbeats 4000000 in
theorem kX1_earth (l : Launch) (g : Gl) (aK : Nat → Nat) (aV : Nat → Nat) (q : Nat → Nat) (sz : Nat) (S : Bun) (a1 : Int32) (post : Int32 → Prop) (h : wX1_earth S a1 post) : Met l yX1_earth wsX1_earth (rmm 1 22) (wPc g (E5 aK aV) ((wP g q) S) sz [.ref (q 0), .int a1]) (va_Qi (fun (r : Int32) (u : Bun) => u = S ∧ post r) (wB g (wP g q) (va_A ((wP g q) S) sz)) (va_A ((wP g q) S) sz)) 0 0 (va_A ((wP g q) S) sz) := by
  refine mstart (Qf := fun A => va_Qi (fun (r : Int32) (u : Bun) => u = S ∧ post r) (wB g (wP g q) A) A) (by decide) rfl (Nat.le_of_ble_eq_true rfl) ?_
  intro p e s m args below meth c A Q H locs ls hC hr hlocks hname hQ hA hK hE hw hl
  have hC : CallFix p m c cX1_earth 2 s args wsX1_earth RX1 := hC
  obtain ⟨hx, hb, -, hown, hts⟩ := id hC
  have hl : lv_has ls 2 [(0, .ref (q 0)), (1, .int a1)] := hl
  rw [wX1_earth] at h
  refine lv_ldc (v := (65535 : Int32)) hx hb hown (hts (.constant RX1 31 (65535)) (List.mem_of_getElem? (i := 1) rfl)) dX1_earth_0 ?_
  refine lv_aload_n hx hb dX1_earth_2 rfl (lv_at hl 0 rfl) ?_
  refine lv_iload_n hx hb dX1_earth_3 rfl (lv_at hl 1 rfl) ?_
  refine lv_iconst (v := (0 : Int32)) hx hb dX1_earth_4 (by decide) ?_
  refine mcalli (w1 := (wP g q)) (va_runV (As := [.int a1, .int (0 : Int32)]) (rest := [.int (65535 : Int32)]) hC (kX1_mark l g aK aV q H.size S a1 (0 : Int32) _ h) (cwV 2 hts gX1_earth_X1_mark rfl rfl rfl (by decide +kernel) ⟨Nat.le_of_ble_eq_true rfl, Nat.le_of_ble_eq_true rfl⟩) (mpreV (E5_ok aK aV) hK hE hA hw (Sub1.refl _) 0 rfl rfl) rfl rfl hl.1 rfl (lv_room (Nat.le_of_ble_eq_true rfl)) dX1_earth_5 ⟨Nat.zero_le _, Nat.zero_le _⟩) hA hw (Sub1.refl _) (fun _ => Sub.whole rfl) (fun r1 u2 H locs h hw => ?_)
  obtain ⟨hu, h⟩ := h
  replace hu := hu.symm
  subst hu
  refine lv_aload_n hx hb dX1_earth_8 rfl (lv_at hl 0 rfl) ?_
  refine lv_iload_n hx hb dX1_earth_9 rfl (lv_at hl 1 rfl) ?_
  refine lv_iconst (v := (1 : Int32)) hx hb dX1_earth_10 (by decide) ?_
  refine mcalli (w1 := (wP g q)) (va_runV (As := [.int a1, .int (1 : Int32)]) (rest := [.int r1, .int (65535 : Int32)]) hC (kX1_mark l g aK aV q H.size S a1 (1 : Int32) _ h) (cwV 2 hts gX1_earth_X1_mark rfl rfl rfl (by decide +kernel) ⟨Nat.le_of_ble_eq_true rfl, Nat.le_of_ble_eq_true rfl⟩) (mpreV (E5_ok aK aV) hK hE hA hw (Sub1.refl _) 0 rfl rfl) rfl rfl hl.1 rfl (lv_room (Nat.le_of_ble_eq_true rfl)) dX1_earth_11 ⟨Nat.zero_le _, Nat.zero_le _⟩) hA hw (Sub1.refl _) (fun _ => Sub.whole rfl) (fun r3 u4 H locs h hw => ?_)
  obtain ⟨hu, h⟩ := h
  replace hu := hu.symm
  subst hu
  refine lv_ior hx hb dX1_earth_14 ?_
  refine lv_iconst (v := (-1 : Int32)) hx hb dX1_earth_15 (by decide) ?_
  refine lv_ixor hx hb dX1_earth_16 ?_
  refine lv_iand hx hb dX1_earth_17 ?_
  rw [hQ]
  exact mreti (w := (wP g q)) (u := S) hC hr hlocks hK hw ⟨rfl, h⟩ dX1_earth_18
def wX1_addField (S : Bun)  (post : Int32 → Bun → Prop) : Prop :=
  ∀ x1 : Int32, x1 = S 0 0 → wloop (σ := Int32 × Bun) (fun K4 z => match z with | (x2, S3) => (((6 : Int32) ≤ x2 → vp_in x1 6 ∧ ∀ S10 : Bun, S10 = up S3 4 x1.toNatClampNeg (0 : Int32) → ∀ S11 : Bun, S11 = up S10 0 0 ((S10 0 0) + (1 : Int32)) → post x1 S11) ∧ (¬ ((6 : Int32) ≤ x2) → vp_in x2 6 ∧ wX1_putMark S3 x1 x2 (tbFirst x2.toNatClampNeg) (fun S15 => ∀ x16 : Int32, x16 = x2 + (1 : Int32) → K4 (x16, S15))))) ((0 : Int32), S)
set_option maxRecDepth 100000 in
set_option maxHeartbeats 4000000 in
theorem kX1_addField (l : Launch) (g : Gl) (aK : Nat → Nat) (aV : Nat → Nat) (q : Nat → Nat) (sz : Nat) (S : Bun)  (post : Int32 → Bun → Prop) (h : wX1_addField S  post) : Met l yX1_addField wsX1_addField (rmm 1 23) (wPc g (E5 aK aV) ((wP g q) S) sz [.ref (q 0)]) (va_Qi (fun (r : Int32) (u : Bun) => post r u) (wB g (wP g q) (va_A ((wP g q) S) sz)) (va_A ((wP g q) S) sz)) 0 0 (va_A ((wP g q) S) sz) := by
  refine mstart (Qf := fun A => va_Qi (fun (r : Int32) (u : Bun) => post r u) (wB g (wP g q) A) A) (by decide) rfl (Nat.le_of_ble_eq_true rfl) ?_
  intro p e s m args below meth c A Q H locs ls hC hr hlocks hname hQ hA hK hE hw hl
  have hC : CallFix p m c cX1_addField 3 s args wsX1_addField RX1 := hC
  obtain ⟨hx, hb, -, hown, hts⟩ := id hC
  have hl : lv_has ls 3 [(0, .ref (q 0))] := hl
  rw [wX1_addField] at h
  have hinX1 : ∀ w ∈ wsX10, w ∈ wsX1_addField := fun w hw9 => List.mem_cons_of_mem _ (List.mem_append_right _ hw9)
  refine lv_aload_n hx hb dX1_addField_0 rfl (lv_at hl 0 rfl) ?_
  refine P_pg0 hC hinX1 hK hw (List.mem_of_getElem? (i := 1) rfl) dX1_addField_1 ?_
  refine lv_topi (fun x1 ex1 => ?_)
  replace h := h x1 ex1
  refine lv_istore_n (lv' := [(1, .int x1), (0, .ref (q 0))]) hx hb dX1_addField_4 rfl hl (by decide) rfl (fun ls hl => ?_)
  refine lv_iconst (v := (0 : Int32)) hx hb dX1_addField_5 (by decide) ?_
  refine lv_istore_n (lv' := [(2, .int (0 : Int32)), (1, .int x1), (0, .ref (q 0))]) hx hb dX1_addField_6 rfl hl (by decide) rfl (fun ls hl => ?_)
  refine h (fun z => match z with | (x2, S3) => ∀ (H : Heap) (locs : List Loc) (ls : Array Slot), Wd g.1 A s.heap ((wP g q) S3) H locs → lv_has ls 3 [(0, .ref (q 0)), (1, .int x1), (2, .int x2)] → W p l e (rmm 1 23) s m args below meth c H locs 0 0 Q (F0 m 7 ls [])) ?_ _ _ _ hw (lv_sub hl [2, 1, 0] rfl)
  clear h hw hl
  rintro ⟨x2, S3⟩ h H locs ls hw hl
  refine lv_iload_n hx hb dX1_addField_7 rfl (lv_at hl 2 rfl) ?_
  refine lv_bipush (v := (6 : Int32)) hx hb dX1_addField_8 (by decide) ?_
  refine lv_icmp_ge (tgt := 30) hx hb dX1_addField_10 (by decide) (fun c18 => ?_) (fun c18 => ?_)
  · replace h := h.1 c18
    refine lv_aload_n hx hb dX1_addField_30 rfl (lv_at hl 0 rfl) ?_
    refine P_pg3 hC hinX1 hK hw (List.mem_of_getElem? (i := 2) rfl) dX1_addField_31 ?_
    refine lv_iload_n hx hb dX1_addField_34 rfl (lv_at hl 1 rfl) ?_
    refine lv_iconst (v := (0 : Int32)) hx hb dX1_addField_35 (by decide) ?_
    obtain ⟨hi, h⟩ := h
    refine P_ps3 hC hK hw hi dX1_addField_36 (fun S10 H locs eS10 hw => ?_)
    replace h := h S10 eS10
    refine lv_aload_n hx hb dX1_addField_37 rfl (lv_at hl 0 rfl) ?_
    refine lv_dup hx hb dX1_addField_38 rfl ?_
    refine P_pg0 hC hinX1 hK hw (List.mem_of_getElem? (i := 1) rfl) dX1_addField_39 ?_
    refine lv_iconst (v := (1 : Int32)) hx hb dX1_addField_42 (by decide) ?_
    refine lv_iadd hx hb dX1_addField_43 ?_
    refine P_pp0 hC hinX1 hK hw (List.mem_of_getElem? (i := 1) rfl) dX1_addField_44 (fun S11 H locs eS11 hw => ?_)
    replace h := h S11 eS11
    refine lv_iload_n hx hb dX1_addField_47 rfl (lv_at hl 1 rfl) ?_
    rw [hQ]
    exact mreti (w := (wP g q)) (u := S11) hC hr hlocks hK hw h dX1_addField_48
  · replace h := h.2 c18
    refine lv_aload_n hx hb dX1_addField_13 rfl (lv_at hl 0 rfl) ?_
    refine lv_iload_n hx hb dX1_addField_14 rfl (lv_at hl 1 rfl) ?_
    refine lv_iload_n hx hb dX1_addField_15 rfl (lv_at hl 2 rfl) ?_
    obtain ⟨t12, hZt12, hTt12⟩ := hE.tbFirst
    refine va_getsN hx hb hZt12 hw.2.2 hown (va_Nw.use rfl hE.nFX1_36) (fun _ h9 => h9) dX1_addField_16 ?_
    refine lv_iload_n hx hb dX1_addField_19 rfl (lv_at hl 2 rfl) ?_
    obtain ⟨hi, h⟩ := h
    refine va_ti hx hb hTt12 hw.2.2 hi rfl dX1_addField_20 ?_
    refine mcallv (w1 := (wP g q)) (va_runV (As := [.int x1, .int x2, .int (tbFirst x2.toNatClampNeg)]) (rest := []) hC (kX1_putMark l g aK aV q H.size S3 x1 x2 (tbFirst x2.toNatClampNeg) _ h) (cwV 3 hts gX1_addField_X1_putMark rfl rfl rfl (by decide +kernel) ⟨Nat.le_of_ble_eq_true rfl, Nat.le_of_ble_eq_true rfl⟩) (mpreV (E5_ok aK aV) hK hE hA hw (Sub1.refl _) 0 rfl rfl) rfl rfl hl.1 rfl (lv_room (Nat.le_of_ble_eq_true rfl)) dX1_addField_21 ⟨Nat.zero_le _, Nat.zero_le _⟩) hA hw (Sub1.refl _) (fun _ => Sub.whole rfl) (fun u14 H locs h hw => ?_)
    obtain ⟨S15, rfl⟩ : ∃ z, z = u14 := ⟨_, rfl⟩
    obtain ⟨x16, ex16⟩ : ∃ y : Int32, y = x2 + (1 : Int32) := ⟨_, rfl⟩
    refine lv_iinc (v := x16) (lv' := [(2, .int x16), (0, .ref (q 0)), (1, .int x1)]) hx hb dX1_addField_24 hl (k := 2) rfl (by rw [ex16]; rfl) (by decide) rfl (fun ls hl => ?_)
    replace h := h x16 ex16
    refine lv_goto (tgt := 7) hx hb dX1_addField_27 (by decide) ?_
    exact h _ _ _ hw (lv_sub hl [1, 2, 0] rfl)
def wX1_addTeam (S : Bun) (a1 : Int32) (a2 : Int32) (post : Int32 → Bun → Prop) : Prop :=
  ∀ x1 : Int32, x1 = S 0 1 → vp_in x1 6 ∧ ∀ S2 : Bun, S2 = up S 5 x1.toNatClampNeg a1 → vp_in x1 6 ∧ ∀ S3 : Bun, S3 = up S2 6 x1.toNatClampNeg a2 → ∀ S4 : Bun, S4 = up S3 0 1 ((S3 0 1) + (1 : Int32)) → post x1 S4
set_option maxRecDepth 100000 in
set_option maxHeartbeats 4000000 in
theorem kX1_addTeam (l : Launch) (g : Gl) (aK : Nat → Nat) (aV : Nat → Nat) (q : Nat → Nat) (sz : Nat) (S : Bun) (a1 : Int32) (a2 : Int32) (post : Int32 → Bun → Prop) (h : wX1_addTeam S a1 a2 post) : Met l yX1_addTeam wsX1_addTeam (rmm 0 0) (wPc g (E5 aK aV) ((wP g q) S) sz [.ref (q 0), .int a1, .int a2]) (va_Qi (fun (r : Int32) (u : Bun) => post r u) (wB g (wP g q) (va_A ((wP g q) S) sz)) (va_A ((wP g q) S) sz)) 0 0 (va_A ((wP g q) S) sz) := by
  refine mstart (Qf := fun A => va_Qi (fun (r : Int32) (u : Bun) => post r u) (wB g (wP g q) A) A) (by decide) rfl (Nat.le_of_ble_eq_true rfl) ?_
  intro p e s m args below meth c A Q H locs ls hC hr hlocks hname hQ hA hK hE hw hl
  have hC : CallFix p m c cX1_addTeam 4 s args wsX1_addTeam RX1 := hC
  obtain ⟨hx, hb, -, hown, hts⟩ := id hC
  have hl : lv_has ls 4 [(0, .ref (q 0)), (1, .int a1), (2, .int a2)] := hl
  rw [wX1_addTeam] at h
  have hinX1 : ∀ w ∈ wsX10, w ∈ wsX1_addTeam := fun w hw9 => List.mem_cons_of_mem _ (List.mem_append_right _ hw9)
  refine lv_aload_n hx hb dX1_addTeam_0 rfl (lv_at hl 0 rfl) ?_
  refine P_pg1 hC hinX1 hK hw (List.mem_of_getElem? (i := 1) rfl) dX1_addTeam_1 ?_
  refine lv_topi (fun x1 ex1 => ?_)
  replace h := h x1 ex1
  refine lv_istore_n (lv' := [(3, .int x1), (0, .ref (q 0)), (1, .int a1), (2, .int a2)]) hx hb dX1_addTeam_4 rfl hl (by decide) rfl (fun ls hl => ?_)
  refine lv_aload_n hx hb dX1_addTeam_5 rfl (lv_at hl 1 rfl) ?_
  refine P_pg4 hC hinX1 hK hw (List.mem_of_getElem? (i := 2) rfl) dX1_addTeam_6 ?_
  refine lv_iload_n hx hb dX1_addTeam_9 rfl (lv_at hl 0 rfl) ?_
  refine lv_iload_n hx hb dX1_addTeam_10 rfl (lv_at hl 2 rfl) ?_
  obtain ⟨hi, h⟩ := h
  refine P_ps4 hC hK hw hi dX1_addTeam_11 (fun S2 H locs eS2 hw => ?_)
  replace h := h S2 eS2
  refine lv_aload_n hx hb dX1_addTeam_12 rfl (lv_at hl 1 rfl) ?_
  refine P_pg5 hC hinX1 hK hw (List.mem_of_getElem? (i := 3) rfl) dX1_addTeam_13 ?_
  refine lv_iload_n hx hb dX1_addTeam_16 rfl (lv_at hl 0 rfl) ?_
  refine lv_iload_n hx hb dX1_addTeam_17 rfl (lv_at hl 3 rfl) ?_
  obtain ⟨hi, h⟩ := h
  refine P_ps5 hC hK hw hi dX1_addTeam_18 (fun S3 H locs eS3 hw => ?_)
  replace h := h S3 eS3
  refine lv_aload_n hx hb dX1_addTeam_19 rfl (lv_at hl 1 rfl) ?_
  refine lv_dup hx hb dX1_addTeam_20 rfl ?_
  refine P_pg1 hC hinX1 hK hw (List.mem_of_getElem? (i := 1) rfl) dX1_addTeam_21 ?_
  refine lv_iconst (v := (1 : Int32)) hx hb dX1_addTeam_24 (by decide) ?_
  refine lv_iadd hx hb dX1_addTeam_25 ?_
  refine P_pp1 hC hinX1 hK hw (List.mem_of_getElem? (i := 1) rfl) dX1_addTeam_26 (fun S4 H locs eS4 hw => ?_)
  replace h := h S4 eS4
  refine lv_iload_n hx hb dX1_addTeam_29 rfl (lv_at hl 0 rfl) ?_
  rw [hQ]
  exact mreti (w := (wP g q)) (u := S4) hC hr hlocks hK hw h dX1_addTeam_30
def wX1_layCell (S : Bun) (a1 : Int32) (a2 : Int32) (a3 : Int32) (a4 : Int32) (post : Bun → Prop) : Prop :=
  ∀ x1 : Int32, x1 = ((1 : Int32) <<< (a2 &&& 31)) ^^^ (-1 : Int32) → wjoin (σ := Int32) (fun y2 => wjoin (σ := Int32) (fun y6 => wX1_mark S a1 (0 : Int32) (fun r10 => wX1_putMark S a1 (0 : Int32) ((r10 &&& x1) ||| y2) (fun S14 => wX1_mark S14 a1 (1 : Int32) (fun r15 => wX1_putMark S14 a1 (1 : Int32) ((r15 &&& x1) ||| y6) (fun S19 => post S19))))) (fun J7 => ((a4 = 0 → J7 (0 : Int32)) ∧ (¬ (a4 = 0) → J7 ((1 : Int32) <<< (a2 &&& 31)))))) (fun J3 => ((a3 = 0 → J3 (0 : Int32)) ∧ (¬ (a3 = 0) → J3 ((1 : Int32) <<< (a2 &&& 31)))))
set_option maxRecDepth 100000 in
set_option maxHeartbeats 4000000 in
theorem kX1_layCell (l : Launch) (g : Gl) (aK : Nat → Nat) (aV : Nat → Nat) (q : Nat → Nat) (sz : Nat) (S : Bun) (a1 : Int32) (a2 : Int32) (a3 : Int32) (a4 : Int32) (post : Bun → Prop) (h : wX1_layCell S a1 a2 a3 a4 post) : Met l yX1_layCell wsX1_layCell (rmm 1 23) (wPc g (E5 aK aV) ((wP g q) S) sz [.ref (q 0), .int a1, .int a2, .int a3, .int a4]) (va_Qv (fun (u : Bun) => post u) (wB g (wP g q) (va_A ((wP g q) S) sz)) (va_A ((wP g q) S) sz)) 0 0 (va_A ((wP g q) S) sz) := by
  refine mstart (Qf := fun A => va_Qv (fun (u : Bun) => post u) (wB g (wP g q) A) A) (by decide) rfl (Nat.le_of_ble_eq_true rfl) ?_
  intro p e s m args below meth c A Q H locs ls hC hr hlocks hname hQ hA hK hE hw hl
  have hC : CallFix p m c cX1_layCell 8 s args wsX1_layCell RX1 := hC
  obtain ⟨hx, hb, -, hown, hts⟩ := id hC
  have hl : lv_has ls 8 [(0, .ref (q 0)), (1, .int a1), (2, .int a2), (3, .int a3), (4, .int a4)] := hl
  rw [wX1_layCell] at h
  refine lv_iconst (v := (1 : Int32)) hx hb dX1_layCell_0 (by decide) ?_
  refine lv_iload_n hx hb dX1_layCell_1 rfl (lv_at hl 2 rfl) ?_
  refine lv_ishl hx hb dX1_layCell_2 ?_
  refine lv_iconst (v := (-1 : Int32)) hx hb dX1_layCell_3 (by decide) ?_
  refine lv_ixor hx hb dX1_layCell_4 ?_
  refine lv_topi (fun x1 ex1 => ?_)
  replace h := h x1 ex1
  refine lv_istore (lv' := [(5, .int x1), (0, .ref (q 0)), (1, .int a1), (2, .int a2), (3, .int a3), (4, .int a4)]) hx hb dX1_layCell_5 hl (by decide) rfl (fun ls hl => ?_)
  refine lv_iload_n hx hb dX1_layCell_7 rfl (lv_at hl 4 rfl) ?_
  obtain ⟨J3, hJ4, h⟩ := h
  have join5 : ∀ (y2 : Int32) (H : Heap) (locs : List Loc) (ls : Array Slot), J3 y2 → Wd g.1 A s.heap ((wP g q) S) H locs → lv_has ls 8 [(0, .ref (q 0)), (1, .int a1), (2, .int a2), (4, .int a4), (5, .int x1)] → W p l e (rmm 1 23) s m args below meth c H locs 0 0 Q (F0 m 18 ls [.int y2]) := by
    intro y2 H locs ls h hw hl
    replace h := hJ4 y2 h
    refine lv_istore (lv' := [(6, .int y2), (0, .ref (q 0)), (1, .int a1), (2, .int a2), (4, .int a4), (5, .int x1)]) hx hb dX1_layCell_18 hl (by decide) rfl (fun ls hl => ?_)
    refine lv_iload hx hb dX1_layCell_20 (lv_at hl 4 rfl) ?_
    obtain ⟨J7, hJ8, h⟩ := h
    have join9 : ∀ (y6 : Int32) (H : Heap) (locs : List Loc) (ls : Array Slot), J7 y6 → Wd g.1 A s.heap ((wP g q) S) H locs → lv_has ls 8 [(0, .ref (q 0)), (1, .int a1), (5, .int x1), (6, .int y2)] → W p l e (rmm 1 23) s m args below meth c H locs 0 0 Q (F0 m 32 ls [.int y6]) := by
      intro y6 H locs ls h hw hl
      replace h := hJ8 y6 h
      refine lv_istore (lv' := [(7, .int y6), (0, .ref (q 0)), (1, .int a1), (5, .int x1), (6, .int y2)]) hx hb dX1_layCell_32 hl (by decide) rfl (fun ls hl => ?_)
      refine lv_aload_n hx hb dX1_layCell_34 rfl (lv_at hl 1 rfl) ?_
      refine lv_iload_n hx hb dX1_layCell_35 rfl (lv_at hl 2 rfl) ?_
      refine lv_iconst (v := (0 : Int32)) hx hb dX1_layCell_36 (by decide) ?_
      refine lv_aload_n hx hb dX1_layCell_37 rfl (lv_at hl 1 rfl) ?_
      refine lv_iload_n hx hb dX1_layCell_38 rfl (lv_at hl 2 rfl) ?_
      refine lv_iconst (v := (0 : Int32)) hx hb dX1_layCell_39 (by decide) ?_
      refine mcalli (w1 := (wP g q)) (va_runV (As := [.int a1, .int (0 : Int32)]) (rest := [.int (0 : Int32), .int a1, .ref (q 0)]) hC (kX1_mark l g aK aV q H.size S a1 (0 : Int32) _ h) (cwV 2 hts gX1_layCell_X1_mark rfl rfl rfl (by decide +kernel) ⟨Nat.le_of_ble_eq_true rfl, Nat.le_of_ble_eq_true rfl⟩) (mpreV (E5_ok aK aV) hK hE hA hw (Sub1.refl _) 0 rfl rfl) rfl rfl hl.1 rfl (lv_room (Nat.le_of_ble_eq_true rfl)) dX1_layCell_40 ⟨Nat.zero_le _, Nat.zero_le _⟩) hA hw (Sub1.refl _) (fun _ => Sub.whole rfl) (fun r10 u11 H locs h hw => ?_)
      obtain ⟨hu, h⟩ := h
      replace hu := hu.symm
      subst hu
      refine lv_iload hx hb dX1_layCell_43 (lv_at hl 3 rfl) ?_
      refine lv_iand hx hb dX1_layCell_45 ?_
      refine lv_iload hx hb dX1_layCell_46 (lv_at hl 4 rfl) ?_
      refine lv_ior hx hb dX1_layCell_48 ?_
      refine mcallv (w1 := (wP g q)) (va_runV (As := [.int a1, .int (0 : Int32), .int ((r10 &&& x1) ||| y2)]) (rest := []) hC (kX1_putMark l g aK aV q H.size S a1 (0 : Int32) ((r10 &&& x1) ||| y2) _ h) (cwV 3 hts gX1_layCell_X1_putMark rfl rfl rfl (by decide +kernel) ⟨Nat.le_of_ble_eq_true rfl, Nat.le_of_ble_eq_true rfl⟩) (mpreV (E5_ok aK aV) hK hE hA hw (Sub1.refl _) 0 rfl rfl) rfl rfl hl.1 rfl (lv_room (Nat.le_of_ble_eq_true rfl)) dX1_layCell_49 ⟨Nat.zero_le _, Nat.zero_le _⟩) hA hw (Sub1.refl _) (fun _ => Sub.whole rfl) (fun u13 H locs h hw => ?_)
      obtain ⟨S14, rfl⟩ : ∃ z, z = u13 := ⟨_, rfl⟩
      refine lv_aload_n hx hb dX1_layCell_52 rfl (lv_at hl 1 rfl) ?_
      refine lv_iload_n hx hb dX1_layCell_53 rfl (lv_at hl 2 rfl) ?_
      refine lv_iconst (v := (1 : Int32)) hx hb dX1_layCell_54 (by decide) ?_
      refine lv_aload_n hx hb dX1_layCell_55 rfl (lv_at hl 1 rfl) ?_
      refine lv_iload_n hx hb dX1_layCell_56 rfl (lv_at hl 2 rfl) ?_
      refine lv_iconst (v := (1 : Int32)) hx hb dX1_layCell_57 (by decide) ?_
      refine mcalli (w1 := (wP g q)) (va_runV (As := [.int a1, .int (1 : Int32)]) (rest := [.int (1 : Int32), .int a1, .ref (q 0)]) hC (kX1_mark l g aK aV q H.size S14 a1 (1 : Int32) _ h) (cwV 2 hts gX1_layCell_X1_mark rfl rfl rfl (by decide +kernel) ⟨Nat.le_of_ble_eq_true rfl, Nat.le_of_ble_eq_true rfl⟩) (mpreV (E5_ok aK aV) hK hE hA hw (Sub1.refl _) 0 rfl rfl) rfl rfl hl.1 rfl (lv_room (Nat.le_of_ble_eq_true rfl)) dX1_layCell_58 ⟨Nat.zero_le _, Nat.zero_le _⟩) hA hw (Sub1.refl _) (fun _ => Sub.whole rfl) (fun r15 u16 H locs h hw => ?_)
      obtain ⟨hu, h⟩ := h
      replace hu := hu.symm
      subst hu
      refine lv_iload hx hb dX1_layCell_61 (lv_at hl 3 rfl) ?_
      refine lv_iand hx hb dX1_layCell_63 ?_
      refine lv_iload hx hb dX1_layCell_64 (lv_at hl 0 rfl) ?_
      refine lv_ior hx hb dX1_layCell_66 ?_
      refine mcallv (w1 := (wP g q)) (va_runV (As := [.int a1, .int (1 : Int32), .int ((r15 &&& x1) ||| y6)]) (rest := []) hC (kX1_putMark l g aK aV q H.size S14 a1 (1 : Int32) ((r15 &&& x1) ||| y6) _ h) (cwV 3 hts gX1_layCell_X1_putMark rfl rfl rfl (by decide +kernel) ⟨Nat.le_of_ble_eq_true rfl, Nat.le_of_ble_eq_true rfl⟩) (mpreV (E5_ok aK aV) hK hE hA hw (Sub1.refl _) 0 rfl rfl) rfl rfl hl.1 rfl (lv_room (Nat.le_of_ble_eq_true rfl)) dX1_layCell_67 ⟨Nat.zero_le _, Nat.zero_le _⟩) hA hw (Sub1.refl _) (fun _ => Sub.whole rfl) (fun u18 H locs h hw => ?_)
      obtain ⟨S19, rfl⟩ : ∃ z, z = u18 := ⟨_, rfl⟩
      rw [hQ]
      exact mretv (w := (wP g q)) (u := S19) hC hr hlocks hK hw h dX1_layCell_70
    refine lv_if_eq (tgt := 31) hx hb dX1_layCell_22 (by decide) (fun c20 => ?_) (fun c20 => ?_)
    · replace h := h.1 c20
      refine lv_iconst (v := (0 : Int32)) hx hb dX1_layCell_31 (by decide) ?_
      exact join9 (0 : Int32) _ _ _ h hw (lv_sub hl [1, 2, 5, 0] rfl)
    · replace h := h.2 c20
      refine lv_iconst (v := (1 : Int32)) hx hb dX1_layCell_25 (by decide) ?_
      refine lv_iload_n hx hb dX1_layCell_26 rfl (lv_at hl 3 rfl) ?_
      refine lv_ishl hx hb dX1_layCell_27 ?_
      refine lv_goto (tgt := 32) hx hb dX1_layCell_28 (by decide) ?_
      exact join9 ((1 : Int32) <<< (a2 &&& 31)) _ _ _ h hw (lv_sub hl [1, 2, 5, 0] rfl)
  refine lv_if_eq (tgt := 17) hx hb dX1_layCell_8 (by decide) (fun c21 => ?_) (fun c21 => ?_)
  · replace h := h.1 c21
    refine lv_iconst (v := (0 : Int32)) hx hb dX1_layCell_17 (by decide) ?_
    exact join5 (0 : Int32) _ _ _ h hw (lv_sub hl [1, 2, 3, 5, 0] rfl)
  · replace h := h.2 c21
    refine lv_iconst (v := (1 : Int32)) hx hb dX1_layCell_11 (by decide) ?_
    refine lv_iload_n hx hb dX1_layCell_12 rfl (lv_at hl 3 rfl) ?_
    refine lv_ishl hx hb dX1_layCell_13 ?_
    refine lv_goto (tgt := 18) hx hb dX1_layCell_14 (by decide) ?_
    exact join5 ((1 : Int32) <<< (a2 &&& 31)) _ _ _ h hw (lv_sub hl [1, 2, 3, 5, 0] rfl)
def wX1_allEarth (S : Bun)  (post : Int32 → Prop) : Prop :=
  wloop (σ := Int32 × Int32) (fun K3 z => match z with | (x1, x2) => (((S 0 0) ≤ x2 → post x1) ∧ (¬ ((S 0 0) ≤ x2) → wX1_earth S x2 (fun r9 => wJ6_bitCount_0f7a4 r9 (fun r11 => ∀ x13 : Int32, x13 = x1 + r11 → ∀ x14 : Int32, x14 = x2 + (1 : Int32) → K3 (x13, x14)))))) ((0 : Int32), (0 : Int32))
set_option maxRecDepth 100000 in
set_option maxHeartbeats 4000000 in
theorem kX1_allEarth (l : Launch) (g : Gl) (aK : Nat → Nat) (aV : Nat → Nat) (q : Nat → Nat) (sz : Nat) (S : Bun)  (post : Int32 → Prop) (h : wX1_allEarth S  post) : Met l yX1_allEarth wsX1_allEarth (rmm 2 43) (wPc g (E5 aK aV) ((wP g q) S) sz [.ref (q 0)]) (va_Qi (fun (r : Int32) (u : Bun) => u = S ∧ post r) (wB g (wP g q) (va_A ((wP g q) S) sz)) (va_A ((wP g q) S) sz)) 0 0 (va_A ((wP g q) S) sz) := by
  refine mstart (Qf := fun A => va_Qi (fun (r : Int32) (u : Bun) => u = S ∧ post r) (wB g (wP g q) A) A) (by decide) rfl (Nat.le_of_ble_eq_true rfl) ?_
  intro p e s m args below meth c A Q H locs ls hC hr hlocks hname hQ hA hK hE hw hl
  have hC : CallFix p m c cX1_allEarth 3 s args wsX1_allEarth RX1 := hC
  obtain ⟨hx, hb, -, hown, hts⟩ := id hC
  have hl : lv_has ls 3 [(0, .ref (q 0))] := hl
  rw [wX1_allEarth] at h
  have hinX1 : ∀ w ∈ wsX10, w ∈ wsX1_allEarth := fun w hw9 => List.mem_cons_of_mem _ (List.mem_append_right _ hw9)
  refine lv_iconst (v := (0 : Int32)) hx hb dX1_allEarth_0 (by decide) ?_
  refine lv_istore_n (lv' := [(1, .int (0 : Int32)), (0, .ref (q 0))]) hx hb dX1_allEarth_1 rfl hl (by decide) rfl (fun ls hl => ?_)
  refine lv_iconst (v := (0 : Int32)) hx hb dX1_allEarth_2 (by decide) ?_
  refine lv_istore_n (lv' := [(2, .int (0 : Int32)), (1, .int (0 : Int32)), (0, .ref (q 0))]) hx hb dX1_allEarth_3 rfl hl (by decide) rfl (fun ls hl => ?_)
  refine h (fun z => match z with | (x1, x2) => ∀ (H : Heap) (locs : List Loc) (ls : Array Slot), Wd g.1 A s.heap ((wP g q) S) H locs → lv_has ls 3 [(0, .ref (q 0)), (1, .int x1), (2, .int x2)] → W p l e (rmm 2 43) s m args below meth c H locs 0 0 Q (F0 m 4 ls [])) ?_ _ _ _ hw (lv_sub hl [2, 1, 0] rfl)
  clear h hw hl
  rintro ⟨x1, x2⟩ h H locs ls hw hl
  refine lv_iload_n hx hb dX1_allEarth_4 rfl (lv_at hl 2 rfl) ?_
  refine lv_aload_n hx hb dX1_allEarth_5 rfl (lv_at hl 0 rfl) ?_
  refine P_pg0 hC hinX1 hK hw (List.mem_of_getElem? (i := 1) rfl) dX1_allEarth_6 ?_
  refine lv_icmp_ge (tgt := 29) hx hb dX1_allEarth_9 (by decide) (fun c16 => ?_) (fun c16 => ?_)
  · replace h := h.1 c16
    refine lv_iload_n hx hb dX1_allEarth_29 rfl (lv_at hl 1 rfl) ?_
    rw [hQ]
    exact mreti (w := (wP g q)) (u := S) hC hr hlocks hK hw ⟨rfl, h⟩ dX1_allEarth_30
  · replace h := h.2 c16
    refine lv_iload_n hx hb dX1_allEarth_12 rfl (lv_at hl 1 rfl) ?_
    refine lv_aload_n hx hb dX1_allEarth_13 rfl (lv_at hl 0 rfl) ?_
    refine lv_iload_n hx hb dX1_allEarth_14 rfl (lv_at hl 2 rfl) ?_
    refine mcalli (w1 := (wP g q)) (va_runV (As := [.int x2]) (rest := [.int x1]) hC (kX1_earth l g aK aV q H.size S x2 _ h) (cwV 1 hts gX1_allEarth_X1_earth rfl rfl rfl (by decide +kernel) ⟨Nat.le_of_ble_eq_true rfl, Nat.le_of_ble_eq_true rfl⟩) (mpreV (E5_ok aK aV) hK hE hA hw (Sub1.refl _) 0 rfl rfl) rfl rfl hl.1 rfl (lv_room (Nat.le_of_ble_eq_true rfl)) dX1_allEarth_15 ⟨Nat.zero_le _, Nat.zero_le _⟩) hA hw (Sub1.refl _) (fun _ => Sub.whole rfl) (fun r9 u10 H locs h hw => ?_)
    obtain ⟨hu, h⟩ := h
    replace hu := hu.symm
    subst hu
    refine mcalli (w1 := (fun _ => (wP g q) S)) (wc := fun _ : Unit => ([] : va_W)) (u := ()) (va_runS (As := [.int r9]) (rest := [.int x1]) hC (kJ6_bitCount_0f7a4 l g aK aV H.size r9 _ h) (va_cwS 1 hts gX1_allEarth_J6_bitCount_0f7a4 rfl rfl rfl (by decide +kernel) ⟨Nat.le_of_ble_eq_true rfl, Nat.le_of_ble_eq_true rfl⟩) (mpre (E5_ok aK aV) hK hE hA hw (Sub1.nil _)) rfl rfl hl.1 rfl (lv_room (Nat.le_of_ble_eq_true rfl)) dX1_allEarth_18 ⟨Nat.zero_le _, Nat.zero_le _⟩) hA hw (Sub1.nil _) (fun _ => Sub.nil _) (fun r11 u12 H locs h hw => ?_)
    obtain ⟨_, h⟩ := h
    refine lv_iadd hx hb dX1_allEarth_21 ?_
    refine lv_topi (fun x13 ex13 => ?_)
    replace h := h x13 ex13
    refine lv_istore_n (lv' := [(1, .int x13), (0, .ref (q 0)), (2, .int x2)]) hx hb dX1_allEarth_22 rfl hl (by decide) rfl (fun ls hl => ?_)
    obtain ⟨x14, ex14⟩ : ∃ y : Int32, y = x2 + (1 : Int32) := ⟨_, rfl⟩
    refine lv_iinc (v := x14) (lv' := [(2, .int x14), (1, .int x13), (0, .ref (q 0))]) hx hb dX1_allEarth_23 hl (k := 2) rfl (by rw [ex14]; rfl) (by decide) rfl (fun ls hl => ?_)
    replace h := h x14 ex14
    refine lv_goto (tgt := 4) hx hb dX1_allEarth_26 (by decide) ?_
    exact h _ _ _ hw (lv_sub hl [2, 1, 0] rfl)
def wX1_allJoins (S : Bun)  (post : Int32 → Prop) : Prop :=
  wloop (σ := Int32 × Int32) (fun K3 z => match z with | (x1, x2) => (((S 0 0) ≤ x2 → post x1) ∧ (¬ ((S 0 0) ≤ x2) → vp_in x2 6 ∧ wJ6_bitCount_0f7a4 (S 4 x2.toNatClampNeg) (fun r9 => ∀ x11 : Int32, x11 = x1 + r9 → ∀ x12 : Int32, x12 = x2 + (1 : Int32) → K3 (x11, x12))))) ((0 : Int32), (0 : Int32))
set_option maxRecDepth 100000 in
set_option maxHeartbeats 4000000 in
theorem kX1_allJoins (l : Launch) (g : Gl) (aK : Nat → Nat) (aV : Nat → Nat) (q : Nat → Nat) (sz : Nat) (S : Bun)  (post : Int32 → Prop) (h : wX1_allJoins S  post) : Met l yX1_allJoins wsX1_allJoins (rmm 1 20) (wPc g (E5 aK aV) ((wP g q) S) sz [.ref (q 0)]) (va_Qi (fun (r : Int32) (u : Bun) => u = S ∧ post r) (wB g (wP g q) (va_A ((wP g q) S) sz)) (va_A ((wP g q) S) sz)) 0 0 (va_A ((wP g q) S) sz) := by
  refine mstart (Qf := fun A => va_Qi (fun (r : Int32) (u : Bun) => u = S ∧ post r) (wB g (wP g q) A) A) (by decide) rfl (Nat.le_of_ble_eq_true rfl) ?_
  intro p e s m args below meth c A Q H locs ls hC hr hlocks hname hQ hA hK hE hw hl
  have hC : CallFix p m c cX1_allJoins 3 s args wsX1_allJoins RX1 := hC
  obtain ⟨hx, hb, -, hown, hts⟩ := id hC
  have hl : lv_has ls 3 [(0, .ref (q 0))] := hl
  rw [wX1_allJoins] at h
  have hinX1 : ∀ w ∈ wsX10, w ∈ wsX1_allJoins := fun w hw9 => List.mem_cons_of_mem _ (List.mem_append_right _ hw9)
  refine lv_iconst (v := (0 : Int32)) hx hb dX1_allJoins_0 (by decide) ?_
  refine lv_istore_n (lv' := [(1, .int (0 : Int32)), (0, .ref (q 0))]) hx hb dX1_allJoins_1 rfl hl (by decide) rfl (fun ls hl => ?_)
  refine lv_iconst (v := (0 : Int32)) hx hb dX1_allJoins_2 (by decide) ?_
  refine lv_istore_n (lv' := [(2, .int (0 : Int32)), (1, .int (0 : Int32)), (0, .ref (q 0))]) hx hb dX1_allJoins_3 rfl hl (by decide) rfl (fun ls hl => ?_)
  refine h (fun z => match z with | (x1, x2) => ∀ (H : Heap) (locs : List Loc) (ls : Array Slot), Wd g.1 A s.heap ((wP g q) S) H locs → lv_has ls 3 [(0, .ref (q 0)), (1, .int x1), (2, .int x2)] → W p l e (rmm 1 20) s m args below meth c H locs 0 0 Q (F0 m 4 ls [])) ?_ _ _ _ hw (lv_sub hl [2, 1, 0] rfl)
  clear h hw hl
  rintro ⟨x1, x2⟩ h H locs ls hw hl
  refine lv_iload_n hx hb dX1_allJoins_4 rfl (lv_at hl 2 rfl) ?_
  refine lv_aload_n hx hb dX1_allJoins_5 rfl (lv_at hl 0 rfl) ?_
  refine P_pg0 hC hinX1 hK hw (List.mem_of_getElem? (i := 1) rfl) dX1_allJoins_6 ?_
  refine lv_icmp_ge (tgt := 30) hx hb dX1_allJoins_9 (by decide) (fun c14 => ?_) (fun c14 => ?_)
  · replace h := h.1 c14
    refine lv_iload_n hx hb dX1_allJoins_30 rfl (lv_at hl 1 rfl) ?_
    rw [hQ]
    exact mreti (w := (wP g q)) (u := S) hC hr hlocks hK hw ⟨rfl, h⟩ dX1_allJoins_31
  · replace h := h.2 c14
    refine lv_iload_n hx hb dX1_allJoins_12 rfl (lv_at hl 1 rfl) ?_
    refine lv_aload_n hx hb dX1_allJoins_13 rfl (lv_at hl 0 rfl) ?_
    refine P_pg3 hC hinX1 hK hw (List.mem_of_getElem? (i := 2) rfl) dX1_allJoins_14 ?_
    refine lv_iload_n hx hb dX1_allJoins_17 rfl (lv_at hl 2 rfl) ?_
    obtain ⟨hi, h⟩ := h
    refine P_pl3 hC hK hw hi dX1_allJoins_18 ?_
    refine mcalli (w1 := (fun _ => (wP g q) S)) (wc := fun _ : Unit => ([] : va_W)) (u := ()) (va_runS (As := [.int (S 4 x2.toNatClampNeg)]) (rest := [.int x1]) hC (kJ6_bitCount_0f7a4 l g aK aV H.size (S 4 x2.toNatClampNeg) _ h) (va_cwS 1 hts gX1_allJoins_J6_bitCount_0f7a4 rfl rfl rfl (by decide +kernel) ⟨Nat.le_of_ble_eq_true rfl, Nat.le_of_ble_eq_true rfl⟩) (mpre (E5_ok aK aV) hK hE hA hw (Sub1.nil _)) rfl rfl hl.1 rfl (lv_room (Nat.le_of_ble_eq_true rfl)) dX1_allJoins_19 ⟨Nat.zero_le _, Nat.zero_le _⟩) hA hw (Sub1.nil _) (fun _ => Sub.nil _) (fun r9 u10 H locs h hw => ?_)
    obtain ⟨_, h⟩ := h
    refine lv_iadd hx hb dX1_allJoins_22 ?_
    refine lv_topi (fun x11 ex11 => ?_)
    replace h := h x11 ex11
    refine lv_istore_n (lv' := [(1, .int x11), (0, .ref (q 0)), (2, .int x2)]) hx hb dX1_allJoins_23 rfl hl (by decide) rfl (fun ls hl => ?_)
    obtain ⟨x12, ex12⟩ : ∃ y : Int32, y = x2 + (1 : Int32) := ⟨_, rfl⟩
    refine lv_iinc (v := x12) (lv' := [(2, .int x12), (1, .int x11), (0, .ref (q 0))]) hx hb dX1_allJoins_24 hl (k := 2) rfl (by rw [ex12]; rfl) (by decide) rfl (fun ls hl => ?_)
    replace h := h x12 ex12
    refine lv_goto (tgt := 4) hx hb dX1_allJoins_27 (by decide) ?_
    exact h _ _ _ hw (lv_sub hl [2, 1, 0] rfl)
def wX1_takeFrom (S : Bun) (O : Bun)  (post : Bun → Bun → Prop) : Prop :=
  ∀ S1 : Bun, S1 = up S 0 0 (O 0 0) → ∀ S2 : Bun, S2 = up S1 0 1 (O 0 1) → ∀ S3 : Bun, S3 = va_up S2 3 (va_cpy (O 3) (S2 3) (0 : Int32).toNatClampNeg (0 : Int32).toNatClampNeg (36 : Int32).toNatClampNeg) → ∀ S4 : Bun, S4 = va_up S3 4 (va_cpy (O 4) (S3 4) (0 : Int32).toNatClampNeg (0 : Int32).toNatClampNeg (6 : Int32).toNatClampNeg) → ∀ S5 : Bun, S5 = va_up S4 5 (va_cpy (O 5) (S4 5) (0 : Int32).toNatClampNeg (0 : Int32).toNatClampNeg (6 : Int32).toNatClampNeg) → ∀ S6 : Bun, S6 = va_up S5 6 (va_cpy (O 6) (S5 6) (0 : Int32).toNatClampNeg (0 : Int32).toNatClampNeg (6 : Int32).toNatClampNeg) → post S6 O
set_option maxRecDepth 100000 in
set_option maxHeartbeats 4000000 in
theorem kX1_takeFrom (l : Launch) (g : Gl) (aK : Nat → Nat) (aV : Nat → Nat) (q : Nat → Nat) (q2 : Nat → Nat) (sz : Nat) (S : Bun) (O : Bun)  (post : Bun → Bun → Prop) (h : wX1_takeFrom S O  post) : Met l yX1_takeFrom wsX1_takeFrom (rmm 1 64) (wPc g (E5 aK aV) ((wPP g q q2) (S, O)) sz [.ref (q 0), .ref (q2 0)]) (va_Qv (fun (u : Bun × Bun) => post u.1 u.2) (wB g (wPP g q q2) (va_A ((wPP g q q2) (S, O)) sz)) (va_A ((wPP g q q2) (S, O)) sz)) 0 0 (va_A ((wPP g q q2) (S, O)) sz) := by
  refine mstart (Qf := fun A => va_Qv (fun (u : Bun × Bun) => post u.1 u.2) (wB g (wPP g q q2) A) A) (by decide) rfl (Nat.le_of_ble_eq_true rfl) ?_
  intro p e s m args below meth c A Q H locs ls hC hr hlocks hname hQ hA hK hE hw hl
  have hC : CallFix p m c cX1_takeFrom 2 s args wsX1_takeFrom RX1 := hC
  obtain ⟨hx, hb, -, hown, hts⟩ := id hC
  have hl : lv_has ls 2 [(0, .ref (q 0)), (1, .ref (q2 0))] := hl
  rw [wX1_takeFrom] at h
  have hinX1 : ∀ w ∈ wsX10, w ∈ wsX1_takeFrom := fun w hw9 => List.mem_cons_of_mem _ (List.mem_append_right _ hw9)
  refine lv_aload_n hx hb dX1_takeFrom_0 rfl (lv_at hl 0 rfl) ?_
  refine lv_aload_n hx hb dX1_takeFrom_1 rfl (lv_at hl 1 rfl) ?_
  refine PP_og0 hC hinX1 hK hw (List.mem_of_getElem? (i := 1) rfl) dX1_takeFrom_2 ?_
  refine PP_pp0 hC hinX1 hK hw (List.mem_of_getElem? (i := 1) rfl) dX1_takeFrom_5 (fun S1 H locs eS1 hw => ?_)
  replace h := h S1 eS1
  refine lv_aload_n hx hb dX1_takeFrom_8 rfl (lv_at hl 0 rfl) ?_
  refine lv_aload_n hx hb dX1_takeFrom_9 rfl (lv_at hl 1 rfl) ?_
  refine PP_og1 hC hinX1 hK hw (List.mem_of_getElem? (i := 2) rfl) dX1_takeFrom_10 ?_
  refine PP_pp1 hC hinX1 hK hw (List.mem_of_getElem? (i := 2) rfl) dX1_takeFrom_13 (fun S2 H locs eS2 hw => ?_)
  replace h := h S2 eS2
  refine lv_aload_n hx hb dX1_takeFrom_16 rfl (lv_at hl 1 rfl) ?_
  refine PP_og2 hC hinX1 hK hw (List.mem_of_getElem? (i := 3) rfl) dX1_takeFrom_17 ?_
  refine lv_iconst (v := (0 : Int32)) hx hb dX1_takeFrom_20 (by decide) ?_
  refine lv_aload_n hx hb dX1_takeFrom_21 rfl (lv_at hl 0 rfl) ?_
  refine PP_pg2 hC hinX1 hK hw (List.mem_of_getElem? (i := 3) rfl) dX1_takeFrom_22 ?_
  refine lv_iconst (v := (0 : Int32)) hx hb dX1_takeFrom_25 (by decide) ?_
  refine lv_aload_n hx hb dX1_takeFrom_26 rfl (lv_at hl 0 rfl) ?_
  refine PP_pg2 hC hinX1 hK hw (List.mem_of_getElem? (i := 3) rfl) dX1_takeFrom_27 ?_
  refine PP_pn2 hC hK hw dX1_takeFrom_30 ?_
  obtain ⟨S3, eS3⟩ : ∃ z, z = va_up S2 3 (va_cpy (O 3) (S2 3) (0 : Int32).toNatClampNeg (0 : Int32).toNatClampNeg (36 : Int32).toNatClampNeg) := ⟨_, rfl⟩
  replace h := h S3 eS3
  refine va_copyi hx hb (hC.2.2.1.trans hl.1.symm) hown (hts (.methodLink RX1 52 arraycopyName) (List.mem_of_getElem? (i := 4) rfl)) (hts (.native arraycopyName) (List.mem_of_getElem? (i := 5) rfl)) (hts (.static arraycopyName) (List.mem_of_getElem? (i := 6) rfl)) (hts (.initialized "java/lang/System") (List.mem_of_getElem? (i := 7) rfl)) hK hw.1 hw.2.1 hw.2.2 6 1 0 0 rfl rfl rfl rfl rfl (by decide) (by decide) (by decide) (by decide) (by decide) (fun _ _ => rfl) (Nat.le_of_ble_eq_true rfl) (Nat.le_of_ble_eq_true rfl) dX1_takeFrom_31 (fun H locs hP hD hS => ?_)
  replace hw : Wd g.1 A s.heap ((wPP g q q2) (S3, O)) H locs := by rw [eS3]; exact ⟨hP, hD, hS⟩
  refine lv_aload_n hx hb dX1_takeFrom_34 rfl (lv_at hl 1 rfl) ?_
  refine PP_og3 hC hinX1 hK hw (List.mem_of_getElem? (i := 8) rfl) dX1_takeFrom_35 ?_
  refine lv_iconst (v := (0 : Int32)) hx hb dX1_takeFrom_38 (by decide) ?_
  refine lv_aload_n hx hb dX1_takeFrom_39 rfl (lv_at hl 0 rfl) ?_
  refine PP_pg3 hC hinX1 hK hw (List.mem_of_getElem? (i := 8) rfl) dX1_takeFrom_40 ?_
  refine lv_iconst (v := (0 : Int32)) hx hb dX1_takeFrom_43 (by decide) ?_
  refine lv_aload_n hx hb dX1_takeFrom_44 rfl (lv_at hl 0 rfl) ?_
  refine PP_pg3 hC hinX1 hK hw (List.mem_of_getElem? (i := 8) rfl) dX1_takeFrom_45 ?_
  refine PP_pn3 hC hK hw dX1_takeFrom_48 ?_
  obtain ⟨S4, eS4⟩ : ∃ z, z = va_up S3 4 (va_cpy (O 4) (S3 4) (0 : Int32).toNatClampNeg (0 : Int32).toNatClampNeg (6 : Int32).toNatClampNeg) := ⟨_, rfl⟩
  replace h := h S4 eS4
  refine va_copyi hx hb (hC.2.2.1.trans hl.1.symm) hown (hts (.methodLink RX1 52 arraycopyName) (List.mem_of_getElem? (i := 4) rfl)) (hts (.native arraycopyName) (List.mem_of_getElem? (i := 5) rfl)) (hts (.static arraycopyName) (List.mem_of_getElem? (i := 6) rfl)) (hts (.initialized "java/lang/System") (List.mem_of_getElem? (i := 7) rfl)) hK hw.1 hw.2.1 hw.2.2 7 2 0 0 rfl rfl rfl rfl rfl (by decide) (by decide) (by decide) (by decide) (by decide) (fun _ _ => rfl) (Nat.le_of_ble_eq_true rfl) (Nat.le_of_ble_eq_true rfl) dX1_takeFrom_49 (fun H locs hP hD hS => ?_)
  replace hw : Wd g.1 A s.heap ((wPP g q q2) (S4, O)) H locs := by rw [eS4]; exact ⟨hP, hD, hS⟩
  refine lv_aload_n hx hb dX1_takeFrom_52 rfl (lv_at hl 1 rfl) ?_
  refine PP_og4 hC hinX1 hK hw (List.mem_of_getElem? (i := 9) rfl) dX1_takeFrom_53 ?_
  refine lv_iconst (v := (0 : Int32)) hx hb dX1_takeFrom_56 (by decide) ?_
  refine lv_aload_n hx hb dX1_takeFrom_57 rfl (lv_at hl 0 rfl) ?_
  refine PP_pg4 hC hinX1 hK hw (List.mem_of_getElem? (i := 9) rfl) dX1_takeFrom_58 ?_
  refine lv_iconst (v := (0 : Int32)) hx hb dX1_takeFrom_61 (by decide) ?_
  refine lv_aload_n hx hb dX1_takeFrom_62 rfl (lv_at hl 0 rfl) ?_
  refine PP_pg4 hC hinX1 hK hw (List.mem_of_getElem? (i := 9) rfl) dX1_takeFrom_63 ?_
  refine PP_pn4 hC hK hw dX1_takeFrom_66 ?_
  obtain ⟨S5, eS5⟩ : ∃ z, z = va_up S4 5 (va_cpy (O 5) (S4 5) (0 : Int32).toNatClampNeg (0 : Int32).toNatClampNeg (6 : Int32).toNatClampNeg) := ⟨_, rfl⟩
  replace h := h S5 eS5
  refine va_copyi hx hb (hC.2.2.1.trans hl.1.symm) hown (hts (.methodLink RX1 52 arraycopyName) (List.mem_of_getElem? (i := 4) rfl)) (hts (.native arraycopyName) (List.mem_of_getElem? (i := 5) rfl)) (hts (.static arraycopyName) (List.mem_of_getElem? (i := 6) rfl)) (hts (.initialized "java/lang/System") (List.mem_of_getElem? (i := 7) rfl)) hK hw.1 hw.2.1 hw.2.2 8 3 0 0 rfl rfl rfl rfl rfl (by decide) (by decide) (by decide) (by decide) (by decide) (fun _ _ => rfl) (Nat.le_of_ble_eq_true rfl) (Nat.le_of_ble_eq_true rfl) dX1_takeFrom_67 (fun H locs hP hD hS => ?_)
  replace hw : Wd g.1 A s.heap ((wPP g q q2) (S5, O)) H locs := by rw [eS5]; exact ⟨hP, hD, hS⟩
  refine lv_aload_n hx hb dX1_takeFrom_70 rfl (lv_at hl 1 rfl) ?_
  refine PP_og5 hC hinX1 hK hw (List.mem_of_getElem? (i := 10) rfl) dX1_takeFrom_71 ?_
  refine lv_iconst (v := (0 : Int32)) hx hb dX1_takeFrom_74 (by decide) ?_
  refine lv_aload_n hx hb dX1_takeFrom_75 rfl (lv_at hl 0 rfl) ?_
  refine PP_pg5 hC hinX1 hK hw (List.mem_of_getElem? (i := 10) rfl) dX1_takeFrom_76 ?_
  refine lv_iconst (v := (0 : Int32)) hx hb dX1_takeFrom_79 (by decide) ?_
  refine lv_aload_n hx hb dX1_takeFrom_80 rfl (lv_at hl 0 rfl) ?_
  refine PP_pg5 hC hinX1 hK hw (List.mem_of_getElem? (i := 10) rfl) dX1_takeFrom_81 ?_
  refine PP_pn5 hC hK hw dX1_takeFrom_84 ?_
  obtain ⟨S6, eS6⟩ : ∃ z, z = va_up S5 6 (va_cpy (O 6) (S5 6) (0 : Int32).toNatClampNeg (0 : Int32).toNatClampNeg (6 : Int32).toNatClampNeg) := ⟨_, rfl⟩
  replace h := h S6 eS6
  refine va_copyi hx hb (hC.2.2.1.trans hl.1.symm) hown (hts (.methodLink RX1 52 arraycopyName) (List.mem_of_getElem? (i := 4) rfl)) (hts (.native arraycopyName) (List.mem_of_getElem? (i := 5) rfl)) (hts (.static arraycopyName) (List.mem_of_getElem? (i := 6) rfl)) (hts (.initialized "java/lang/System") (List.mem_of_getElem? (i := 7) rfl)) hK hw.1 hw.2.1 hw.2.2 9 4 0 0 rfl rfl rfl rfl rfl (by decide) (by decide) (by decide) (by decide) (by decide) (fun _ _ => rfl) (Nat.le_of_ble_eq_true rfl) (Nat.le_of_ble_eq_true rfl) dX1_takeFrom_85 (fun H locs hP hD hS => ?_)
  replace hw : Wd g.1 A s.heap ((wPP g q q2) (S6, O)) H locs := by rw [eS6]; exact ⟨hP, hD, hS⟩
  rw [hQ]
  exact mretv (w := (wPP g q q2)) (u := (S6, O)) hC hr hlocks hK hw h dX1_takeFrom_88
def wX2_keep (S : Bun) (a1 : Int32) (a2 : Int32) (post : Bun → Prop) : Prop :=
  ((a1 = 0 → post S) ∧ (¬ (a1 = 0) → vp_in (a1 - (1 : Int32)) 6 ∧ vp_in (S 12 (a1 - (1 : Int32)).toNatClampNeg) 6 ∧ ∀ x1 : Int32, x1 = S 13 (S 12 (a1 - (1 : Int32)).toNatClampNeg).toNatClampNeg → wjoin (σ := Bun) (fun S2 => wjoin (σ := Int32) (fun y6 => ∀ S10 : Bun, S10 = up S2 0 6 y6 → ∀ S11 : Bun, S11 = up S10 0 5 ((S10 0 5) + (1 : Int32)) → post S11) (fun J7 => (((S2 0 5) = 0 → J7 a2) ∧ (¬ ((S2 0 5) = 0) → J7 (if (S2 0 6) < a2 then a2 else (S2 0 6)))))) (fun J3 => wjoin (σ := Unit) (fun _ => ∀ S16 : Bun, S16 = up S 0 7 x1 → ∀ S17 : Bun, S17 = up S16 0 8 a2 → ∀ S18 : Bun, S18 = va_up S17 10 (va_cpy (S17 12) (S17 10) (0 : Int32).toNatClampNeg (0 : Int32).toNatClampNeg (6 : Int32).toNatClampNeg) → ∀ S19 : Bun, S19 = va_up S18 11 (va_cpy (S18 13) (S18 11) (0 : Int32).toNatClampNeg (0 : Int32).toNatClampNeg (6 : Int32).toNatClampNeg) → J3 S19) (fun J13 => (((S 0 5) = 0 → J13 ()) ∧ (¬ ((S 0 5) = 0) → (((S 0 7) ≤ x1 → J3 S) ∧ (¬ ((S 0 7) ≤ x1) → J13 ()))))))))
set_option maxRecDepth 100000 in
set_option maxHeartbeats 4000000 in
theorem kX2_keep (l : Launch) (g : Gl) (aK : Nat → Nat) (aV : Nat → Nat) (q : Nat → Nat) (sz : Nat) (S : Bun) (a1 : Int32) (a2 : Int32) (post : Bun → Prop) (h : wX2_keep S a1 a2 post) : Met l yX2_keep wsX2_keep (rmm 1 64) (wPc g (E5 aK aV) ((wR g q) S) sz [.ref (q 0), .int a1, .int a2]) (va_Qv (fun (u : Bun) => post u) (wB g (wR g q) (va_A ((wR g q) S) sz)) (va_A ((wR g q) S) sz)) 0 0 (va_A ((wR g q) S) sz) := by
  refine mstart (Qf := fun A => va_Qv (fun (u : Bun) => post u) (wB g (wR g q) A) A) (by decide) rfl (Nat.le_of_ble_eq_true rfl) ?_
  intro p e s m args below meth c A Q H locs ls hC hr hlocks hname hQ hA hK hE hw hl
  have hC : CallFix p m c cX2_keep 4 s args wsX2_keep RX2 := hC
  obtain ⟨hx, hb, -, hown, hts⟩ := id hC
  have hl : lv_has ls 4 [(0, .ref (q 0)), (1, .int a1), (2, .int a2)] := hl
  rw [wX2_keep] at h
  have hinX2 : ∀ w ∈ wsX20, w ∈ wsX2_keep := fun w hw9 => List.mem_cons_of_mem _ (List.mem_append_right _ hw9)
  refine lv_iload_n hx hb dX2_keep_0 rfl (lv_at hl 1 rfl) ?_
  refine lv_if_ne (tgt := 5) hx hb dX2_keep_1 (by decide) (fun c22 => ?_) (fun c22 => ?_)
  · replace h := h.2 c22
    refine lv_aload_n hx hb dX2_keep_5 rfl (lv_at hl 0 rfl) ?_
    refine R_rg12 hC hinX2 hK hw (List.mem_of_getElem? (i := 1) rfl) dX2_keep_6 ?_
    refine lv_aload_n hx hb dX2_keep_9 rfl (lv_at hl 0 rfl) ?_
    refine R_rg11 hC hinX2 hK hw (List.mem_of_getElem? (i := 2) rfl) dX2_keep_10 ?_
    refine lv_iload_n hx hb dX2_keep_13 rfl (lv_at hl 1 rfl) ?_
    refine lv_iconst (v := (1 : Int32)) hx hb dX2_keep_14 (by decide) ?_
    refine lv_isub hx hb dX2_keep_15 ?_
    obtain ⟨hi, h⟩ := h
    refine R_rl11 hC hK hw hi dX2_keep_16 ?_
    obtain ⟨hi, h⟩ := h
    refine R_rl12 hC hK hw hi dX2_keep_17 ?_
    refine lv_topi (fun x1 ex1 => ?_)
    replace h := h x1 ex1
    refine lv_istore_n (lv' := [(3, .int x1), (0, .ref (q 0)), (1, .int a1), (2, .int a2)]) hx hb dX2_keep_18 rfl hl (by decide) rfl (fun ls hl => ?_)
    refine lv_aload_n hx hb dX2_keep_19 rfl (lv_at hl 1 rfl) ?_
    refine R_rg5 hC hinX2 hK hw (List.mem_of_getElem? (i := 3) rfl) dX2_keep_20 ?_
    obtain ⟨J3, hJ4, h⟩ := h
    have join5 : ∀ (S2 : Bun) (H : Heap) (locs : List Loc) (ls : Array Slot), J3 S2 → Wd g.1 A s.heap ((wR g q) S2) H locs → lv_has ls 4 [(0, .ref (q 0)), (2, .int a2)] → W p l e (rmm 1 64) s m args below meth c H locs 0 0 Q (F0 m 74 ls []) := by
      intro S2 H locs ls h hw hl
      replace h := hJ4 S2 h
      refine lv_aload_n hx hb dX2_keep_74 rfl (lv_at hl 0 rfl) ?_
      refine lv_aload_n hx hb dX2_keep_75 rfl (lv_at hl 0 rfl) ?_
      refine R_rg5 hC hinX2 hK hw (List.mem_of_getElem? (i := 3) rfl) dX2_keep_76 ?_
      obtain ⟨J7, hJ8, h⟩ := h
      have join9 : ∀ (y6 : Int32) (H : Heap) (locs : List Loc) (ls : Array Slot), J7 y6 → Wd g.1 A s.heap ((wR g q) S2) H locs → lv_has ls 4 [(0, .ref (q 0))] → W p l e (rmm 1 64) s m args below meth c H locs 0 0 Q (F0 m 94 ls [.int y6, .ref (q 0)]) := by
        intro y6 H locs ls h hw hl
        replace h := hJ8 y6 h
        refine R_rp6 hC hinX2 hK hw (List.mem_of_getElem? (i := 12) rfl) dX2_keep_94 (fun S10 H locs eS10 hw => ?_)
        replace h := h S10 eS10
        refine lv_aload_n hx hb dX2_keep_97 rfl (lv_at hl 0 rfl) ?_
        refine lv_dup hx hb dX2_keep_98 rfl ?_
        refine R_rg5 hC hinX2 hK hw (List.mem_of_getElem? (i := 3) rfl) dX2_keep_99 ?_
        refine lv_iconst (v := (1 : Int32)) hx hb dX2_keep_102 (by decide) ?_
        refine lv_iadd hx hb dX2_keep_103 ?_
        refine R_rp5 hC hinX2 hK hw (List.mem_of_getElem? (i := 3) rfl) dX2_keep_104 (fun S11 H locs eS11 hw => ?_)
        replace h := h S11 eS11
        rw [hQ]
        exact mretv (w := (wR g q)) (u := S11) hC hr hlocks hK hw h dX2_keep_107
      refine lv_if_ne (tgt := 86) hx hb dX2_keep_79 (by decide) (fun c12 => ?_) (fun c12 => ?_)
      · replace h := h.2 c12
        refine lv_aload_n hx hb dX2_keep_86 rfl (lv_at hl 0 rfl) ?_
        refine R_rg6 hC hinX2 hK hw (List.mem_of_getElem? (i := 12) rfl) dX2_keep_87 ?_
        refine lv_iload_n hx hb dX2_keep_90 rfl (lv_at hl 1 rfl) ?_
        refine va_mmax (rest := [.ref (q 0)]) hx hb (hC.2.2.1.trans hl.1.symm) hown (hts (.methodLink RX2 56 Lib.Math.max.name) (List.mem_of_getElem? (i := 13) rfl)) (hts (.static Lib.Math.max.name) (List.mem_of_getElem? (i := 14) rfl)) (hts (.initialized "java/lang/Math") (List.mem_of_getElem? (i := 15) rfl)) (hts (.code Lib.Math.max.name Lib.Math.max.code 2 (some .int)) (List.mem_of_getElem? (i := 16) rfl)) (Nat.le_of_ble_eq_true rfl) (Nat.le_of_ble_eq_true rfl) (Nat.zero_le _) (Nat.zero_le _) dX2_keep_91 ?_
        exact join9 (if (S2 0 6) < a2 then a2 else (S2 0 6)) _ _ _ h hw (lv_sub hl [0] rfl)
      · replace h := h.1 c12
        refine lv_iload_n hx hb dX2_keep_82 rfl (lv_at hl 1 rfl) ?_
        refine lv_goto (tgt := 94) hx hb dX2_keep_83 (by decide) ?_
        exact join9 a2 _ _ _ h hw (lv_sub hl [0] rfl)
    obtain ⟨J13, hJ14, h⟩ := h
    have join15 : ∀  (H : Heap) (locs : List Loc) (ls : Array Slot), J13 () → Wd g.1 A s.heap ((wR g q) S) H locs → lv_has ls 4 [(0, .ref (q 0)), (2, .int a2), (3, .int x1)] → W p l e (rmm 1 64) s m args below meth c H locs 0 0 Q (F0 m 34 ls []) := by
      intro  H locs ls h hw hl
      replace h := hJ14 () h
      refine lv_aload_n hx hb dX2_keep_34 rfl (lv_at hl 0 rfl) ?_
      refine lv_iload_n hx hb dX2_keep_35 rfl (lv_at hl 2 rfl) ?_
      refine R_rp7 hC hinX2 hK hw (List.mem_of_getElem? (i := 4) rfl) dX2_keep_36 (fun S16 H locs eS16 hw => ?_)
      replace h := h S16 eS16
      refine lv_aload_n hx hb dX2_keep_39 rfl (lv_at hl 0 rfl) ?_
      refine lv_iload_n hx hb dX2_keep_40 rfl (lv_at hl 1 rfl) ?_
      refine R_rp8 hC hinX2 hK hw (List.mem_of_getElem? (i := 5) rfl) dX2_keep_41 (fun S17 H locs eS17 hw => ?_)
      replace h := h S17 eS17
      refine lv_aload_n hx hb dX2_keep_44 rfl (lv_at hl 0 rfl) ?_
      refine R_rg11 hC hinX2 hK hw (List.mem_of_getElem? (i := 2) rfl) dX2_keep_45 ?_
      refine lv_iconst (v := (0 : Int32)) hx hb dX2_keep_48 (by decide) ?_
      refine lv_aload_n hx hb dX2_keep_49 rfl (lv_at hl 0 rfl) ?_
      refine R_rg9 hC hinX2 hK hw (List.mem_of_getElem? (i := 6) rfl) dX2_keep_50 ?_
      refine lv_iconst (v := (0 : Int32)) hx hb dX2_keep_53 (by decide) ?_
      refine lv_bipush (v := (6 : Int32)) hx hb dX2_keep_54 (by decide) ?_
      obtain ⟨S18, eS18⟩ : ∃ z, z = va_up S17 10 (va_cpy (S17 12) (S17 10) (0 : Int32).toNatClampNeg (0 : Int32).toNatClampNeg (6 : Int32).toNatClampNeg) := ⟨_, rfl⟩
      replace h := h S18 eS18
      refine va_copyi hx hb (hC.2.2.1.trans hl.1.symm) hown (hts (.methodLink RX2 68 arraycopyName) (List.mem_of_getElem? (i := 7) rfl)) (hts (.native arraycopyName) (List.mem_of_getElem? (i := 8) rfl)) (hts (.static arraycopyName) (List.mem_of_getElem? (i := 9) rfl)) (hts (.initialized "java/lang/System") (List.mem_of_getElem? (i := 10) rfl)) hK hw.1 hw.2.1 hw.2.2 7 5 0 0 rfl rfl rfl rfl rfl (by decide) (by decide) (by decide) (by decide) (by decide) (fun _ _ => rfl) (Nat.le_of_ble_eq_true rfl) (Nat.le_of_ble_eq_true rfl) dX2_keep_56 (fun H locs hP hD hS => ?_)
      replace hw : Wd g.1 A s.heap ((wR g q) S18) H locs := by rw [eS18]; exact ⟨hP, hD, hS⟩
      refine lv_aload_n hx hb dX2_keep_59 rfl (lv_at hl 0 rfl) ?_
      refine R_rg12 hC hinX2 hK hw (List.mem_of_getElem? (i := 1) rfl) dX2_keep_60 ?_
      refine lv_iconst (v := (0 : Int32)) hx hb dX2_keep_63 (by decide) ?_
      refine lv_aload_n hx hb dX2_keep_64 rfl (lv_at hl 0 rfl) ?_
      refine R_rg10 hC hinX2 hK hw (List.mem_of_getElem? (i := 11) rfl) dX2_keep_65 ?_
      refine lv_iconst (v := (0 : Int32)) hx hb dX2_keep_68 (by decide) ?_
      refine lv_bipush (v := (6 : Int32)) hx hb dX2_keep_69 (by decide) ?_
      obtain ⟨S19, eS19⟩ : ∃ z, z = va_up S18 11 (va_cpy (S18 13) (S18 11) (0 : Int32).toNatClampNeg (0 : Int32).toNatClampNeg (6 : Int32).toNatClampNeg) := ⟨_, rfl⟩
      replace h := h S19 eS19
      refine va_copyi hx hb (hC.2.2.1.trans hl.1.symm) hown (hts (.methodLink RX2 68 arraycopyName) (List.mem_of_getElem? (i := 7) rfl)) (hts (.native arraycopyName) (List.mem_of_getElem? (i := 8) rfl)) (hts (.static arraycopyName) (List.mem_of_getElem? (i := 9) rfl)) (hts (.initialized "java/lang/System") (List.mem_of_getElem? (i := 10) rfl)) hK hw.1 hw.2.1 hw.2.2 8 6 0 0 rfl rfl rfl rfl rfl (by decide) (by decide) (by decide) (by decide) (by decide) (fun _ _ => rfl) (Nat.le_of_ble_eq_true rfl) (Nat.le_of_ble_eq_true rfl) dX2_keep_71 (fun H locs hP hD hS => ?_)
      replace hw : Wd g.1 A s.heap ((wR g q) S19) H locs := by rw [eS19]; exact ⟨hP, hD, hS⟩
      exact join5 S19 _ _ _ h hw (lv_sub hl [0, 1] rfl)
    refine lv_if_eq (tgt := 34) hx hb dX2_keep_23 (by decide) (fun c21 => ?_) (fun c21 => ?_)
    · replace h := h.1 c21
      exact join15  _ _ _ h hw (lv_sub hl [1, 3, 0] rfl)
    · replace h := h.2 c21
      refine lv_iload_n hx hb dX2_keep_26 rfl (lv_at hl 0 rfl) ?_
      refine lv_aload_n hx hb dX2_keep_27 rfl (lv_at hl 1 rfl) ?_
      refine R_rg7 hC hinX2 hK hw (List.mem_of_getElem? (i := 4) rfl) dX2_keep_28 ?_
      refine lv_icmp_ge (tgt := 74) hx hb dX2_keep_31 (by decide) (fun c20 => ?_) (fun c20 => ?_)
      · replace h := h.1 c20
        exact join5 S _ _ _ h hw (lv_sub hl [1, 3] rfl)
      · replace h := h.2 c20
        exact join15  _ _ _ h hw (lv_sub hl [1, 3, 0] rfl)
  · replace h := h.1 c22
    rw [hQ]
    exact mretv (w := (wR g q)) (u := S) hC hr hlocks hK hw h dX2_keep_4
def wX2_goOn : Nat → Bun → Int32 → Int32 → Int32 → Int32 → Int32 → (Bun → Prop) → Prop
  | 0 => fun _ _ _ _ _ _ _ => False
  | d + 1 => fun S a1 a2 a3 a4 a5 post => ((a1 < (S 0 0) → wloop (σ := Int32 × Bun) (fun K3 z => match z with | (x1, S2) => (((S2 0 0) ≤ x1 → post S2) ∧ (¬ ((S2 0 0) ≤ x1) → wX5_holds (a2 &&& a3) x1 (fun r9 => ((r9 = 0 → ∀ x21 : Int32, x21 = x1 + (1 : Int32) → K3 (x21, S2)) ∧ (¬ (r9 = 0) → vp_in x1 6 ∧ vp_in x1 6 ∧ ∀ x11 : Int32, x11 = (if a4 < ((S2 3 x1.toNatClampNeg) * (8 : Int32)) then ((S2 3 x1.toNatClampNeg) * (8 : Int32)) else a4) + (S2 2 x1.toNatClampNeg) → ∀ x12 : Int32, x12 = (x11 - (1 : Int32)) / (8 : Int32) → vp_in a1 6 ∧ ∀ S13 : Bun, S13 = up S2 12 a1.toNatClampNeg x1 → vp_in x1 6 ∧ ∀ S14 : Bun, S14 = up S13 13 x1.toNatClampNeg x12 → vp_in x1 6 ∧ ∀ x15 : Int32, x15 = (if (0 : Int32) < ((S14 4 x1.toNatClampNeg) - ((3 : Int32) * x12)) then ((S14 4 x1.toNatClampNeg) - ((3 : Int32) * x12)) else (0 : Int32)) → vp_in x1 6 ∧ wX2_goOn d S14 (a1 + (1 : Int32)) (a2 &&& (((1 : Int32) <<< (x1 &&& 31)) ^^^ (-1 : Int32))) (S14 5 x1.toNatClampNeg) x11 (a5 + x15) (fun S18 => ∀ x19 : Int32, x19 = x1 + (1 : Int32) → K3 (x19, S18)))))))) ((0 : Int32), S)) ∧ (¬ (a1 < (S 0 0)) → wX2_keep S a1 a5 (fun S27 => post S27)))
set_option maxRecDepth 100000 in
set_option maxHeartbeats 4000000 in
theorem kX2_goOn (l : Launch) (g : Gl) (aK : Nat → Nat) (aV : Nat → Nat) (q : Nat → Nat) (d : Nat) : ∀ (sz : Nat) (S : Bun) (a1 : Int32) (a2 : Int32) (a3 : Int32) (a4 : Int32) (a5 : Int32) (post : Bun → Prop), wX2_goOn d S a1 a2 a3 a4 a5 post → Met l yX2_goOn wsX2_goOn (rmm (d + 2) (d * 29 + 87)) (wPc g (E5 aK aV) ((wR g q) S) sz [.ref (q 0), .int a1, .int a2, .int a3, .int a4, .int a5]) (va_Qv (fun (u : Bun) => post u) (wB g (wR g q) (va_A ((wR g q) S) sz)) (va_A ((wR g q) S) sz)) 0 0 (va_A ((wR g q) S) sz) := by
  induction d with
  | zero => intro sz S a1 a2 a3 a4 a5 post h; exact absurd h (fun z => z)
  | succ d ihd =>
  intro sz S a1 a2 a3 a4 a5 post h
  refine mstart (Qf := fun A => va_Qv (fun (u : Bun) => post u) (wB g (wR g q) A) A) (by decide) rfl (Nat.le_of_ble_eq_true rfl) ?_
  intro p e s m args below meth c A Q H locs ls hC hr hlocks hname hQ hA hK hE hw hl
  have hC : CallFix p m c cX2_goOn 10 s args wsX2_goOn RX2 := hC
  obtain ⟨hx, hb, -, hown, hts⟩ := id hC
  have hl : lv_has ls 10 [(0, .ref (q 0)), (1, .int a1), (2, .int a2), (3, .int a3), (4, .int a4), (5, .int a5)] := hl
  rw [wX2_goOn] at h
  have hinX2 : ∀ w ∈ wsX20, w ∈ wsX2_goOn := fun w hw9 => List.mem_cons_of_mem _ (List.mem_append_right _ hw9)
  refine lv_iload_n hx hb dX2_goOn_0 rfl (lv_at hl 1 rfl) ?_
  refine lv_aload_n hx hb dX2_goOn_1 rfl (lv_at hl 0 rfl) ?_
  refine R_rg0 hC hinX2 hK hw (List.mem_of_getElem? (i := 1) rfl) dX2_goOn_2 ?_
  refine lv_icmp_lt (tgt := 16) hx hb dX2_goOn_5 (by decide) (fun c28 => ?_) (fun c28 => ?_)
  · replace h := h.1 c28
    refine lv_iconst (v := (0 : Int32)) hx hb dX2_goOn_16 (by decide) ?_
    refine lv_istore (lv' := [(6, .int (0 : Int32)), (0, .ref (q 0)), (1, .int a1), (2, .int a2), (3, .int a3), (4, .int a4), (5, .int a5)]) hx hb dX2_goOn_17 hl (by decide) rfl (fun ls hl => ?_)
    refine h (fun z => match z with | (x1, S2) => ∀ (H : Heap) (locs : List Loc) (ls : Array Slot), Wd g.1 A s.heap ((wR g q) S2) H locs → lv_has ls 10 [(0, .ref (q 0)), (1, .int a1), (2, .int a2), (3, .int a3), (4, .int a4), (5, .int a5), (6, .int x1)] → W p l e (rmm (d + 1 + 2) ((d + 1) * 29 + 87)) s m args below meth c H locs 0 0 Q (F0 m 19 ls [])) ?_ _ _ _ hw (lv_sub hl [1, 2, 3, 4, 5, 6, 0] rfl)
    clear h hw hl
    rintro ⟨x1, S2⟩ h H locs ls hw hl
    refine lv_iload hx hb dX2_goOn_19 (lv_at hl 6 rfl) ?_
    refine lv_aload_n hx hb dX2_goOn_21 rfl (lv_at hl 0 rfl) ?_
    refine R_rg0 hC hinX2 hK hw (List.mem_of_getElem? (i := 1) rfl) dX2_goOn_22 ?_
    refine lv_icmp_ge (tgt := 146) hx hb dX2_goOn_25 (by decide) (fun c24 => ?_) (fun c24 => ?_)
    · replace h := h.1 c24
      rw [hQ]
      exact mretv (w := (wR g q)) (u := S2) hC hr hlocks hK hw h dX2_goOn_146
    · replace h := h.2 c24
      refine lv_iload_n hx hb dX2_goOn_28 rfl (lv_at hl 2 rfl) ?_
      refine lv_iload_n hx hb dX2_goOn_29 rfl (lv_at hl 3 rfl) ?_
      refine lv_iand hx hb dX2_goOn_30 ?_
      refine lv_iload hx hb dX2_goOn_31 (lv_at hl 6 rfl) ?_
      refine mcalli (w1 := (fun _ => (wR g q) S2)) (wc := fun _ : Unit => ([] : va_W)) (u := ()) (va_runSN (As := [.int (a2 &&& a3), .int x1]) (rest := []) hC (kX5_holds l g aK aV H.size (a2 &&& a3) x1 _ h) ⟨va_cnB 2 hts gX2_goOn_X5_holds_n52 rfl rfl rfl hE.nMX2_52 (hts (.initialized RX5) (List.mem_of_getElem? (i := 28) rfl)) (by decide +kernel) ⟨by simp only [rmm]; omega, by simp only [rmm]; omega⟩, (hts (.static yX5_holds) (List.mem_of_getElem? (i := 27) rfl)), trivial⟩ (mpre (E5_ok aK aV) hK hE hA hw (Sub1.nil _)) rfl rfl hl.1 rfl (lv_room (Nat.le_of_ble_eq_true rfl)) dX2_goOn_33 ⟨Nat.zero_le _, Nat.zero_le _⟩) hA hw (Sub1.nil _) (fun _ => Sub.nil _) (fun r9 u10 H locs h hw => ?_)
      obtain ⟨_, h⟩ := h
      refine lv_if_ne (tgt := 42) hx hb dX2_goOn_36 (by decide) (fun c23 => ?_) (fun c23 => ?_)
      · replace h := h.2 c23
        refine lv_iload hx hb dX2_goOn_42 (lv_at hl 4 rfl) ?_
        refine lv_aload_n hx hb dX2_goOn_44 rfl (lv_at hl 0 rfl) ?_
        refine R_rg2 hC hinX2 hK hw (List.mem_of_getElem? (i := 2) rfl) dX2_goOn_45 ?_
        refine lv_iload hx hb dX2_goOn_48 (lv_at hl 6 rfl) ?_
        obtain ⟨hi, h⟩ := h
        refine R_rl2 hC hK hw hi dX2_goOn_50 ?_
        refine lv_bipush (v := (8 : Int32)) hx hb dX2_goOn_51 (by decide) ?_
        refine lv_imul hx hb dX2_goOn_53 ?_
        refine va_mmax (rest := []) hx hb (hC.2.2.1.trans hl.1.symm) hown (hts (.methodLink RX2 56 Lib.Math.max.name) (List.mem_of_getElem? (i := 3) rfl)) (hts (.static Lib.Math.max.name) (List.mem_of_getElem? (i := 4) rfl)) (hts (.initialized "java/lang/Math") (List.mem_of_getElem? (i := 5) rfl)) (hts (.code Lib.Math.max.name Lib.Math.max.code 2 (some .int)) (List.mem_of_getElem? (i := 6) rfl)) (by simp only [rmm]; omega) (by simp only [rmm, List.map, List.sum_cons, List.sum_nil, Value.category]; omega) (Nat.zero_le _) (Nat.zero_le _) dX2_goOn_54 ?_
        refine lv_aload_n hx hb dX2_goOn_57 rfl (lv_at hl 0 rfl) ?_
        refine R_rg1 hC hinX2 hK hw (List.mem_of_getElem? (i := 7) rfl) dX2_goOn_58 ?_
        refine lv_iload hx hb dX2_goOn_61 (lv_at hl 6 rfl) ?_
        obtain ⟨hi, h⟩ := h
        refine R_rl1 hC hK hw hi dX2_goOn_63 ?_
        refine lv_iadd hx hb dX2_goOn_64 ?_
        refine lv_topi (fun x11 ex11 => ?_)
        replace h := h x11 ex11
        refine lv_istore (lv' := [(7, .int x11), (0, .ref (q 0)), (1, .int a1), (2, .int a2), (3, .int a3), (4, .int a4), (5, .int a5), (6, .int x1)]) hx hb dX2_goOn_65 hl (by decide) rfl (fun ls hl => ?_)
        refine lv_iload hx hb dX2_goOn_67 (lv_at hl 0 rfl) ?_
        refine lv_iconst (v := (1 : Int32)) hx hb dX2_goOn_69 (by decide) ?_
        refine lv_isub hx hb dX2_goOn_70 ?_
        refine lv_bipush (v := (8 : Int32)) hx hb dX2_goOn_71 (by decide) ?_
        refine lv_idiv hx hb dX2_goOn_73 (by decide) ?_
        refine lv_topi (fun x12 ex12 => ?_)
        replace h := h x12 ex12
        refine lv_istore (lv' := [(8, .int x12), (7, .int x11), (0, .ref (q 0)), (1, .int a1), (2, .int a2), (3, .int a3), (4, .int a4), (5, .int a5), (6, .int x1)]) hx hb dX2_goOn_74 hl (by decide) rfl (fun ls hl => ?_)
        refine lv_aload_n hx hb dX2_goOn_76 rfl (lv_at hl 2 rfl) ?_
        refine R_rg11 hC hinX2 hK hw (List.mem_of_getElem? (i := 8) rfl) dX2_goOn_77 ?_
        refine lv_iload_n hx hb dX2_goOn_80 rfl (lv_at hl 3 rfl) ?_
        refine lv_iload hx hb dX2_goOn_81 (lv_at hl 8 rfl) ?_
        obtain ⟨hi, h⟩ := h
        refine R_rs11 hC hK hw hi dX2_goOn_83 (fun S13 H locs eS13 hw => ?_)
        replace h := h S13 eS13
        refine lv_aload_n hx hb dX2_goOn_84 rfl (lv_at hl 2 rfl) ?_
        refine R_rg12 hC hinX2 hK hw (List.mem_of_getElem? (i := 9) rfl) dX2_goOn_85 ?_
        refine lv_iload hx hb dX2_goOn_88 (lv_at hl 8 rfl) ?_
        refine lv_iload hx hb dX2_goOn_90 (lv_at hl 0 rfl) ?_
        obtain ⟨hi, h⟩ := h
        refine R_rs12 hC hK hw hi dX2_goOn_92 (fun S14 H locs eS14 hw => ?_)
        replace h := h S14 eS14
        refine lv_iconst (v := (0 : Int32)) hx hb dX2_goOn_93 (by decide) ?_
        refine lv_aload_n hx hb dX2_goOn_94 rfl (lv_at hl 2 rfl) ?_
        refine R_rg3 hC hinX2 hK hw (List.mem_of_getElem? (i := 10) rfl) dX2_goOn_95 ?_
        refine lv_iload hx hb dX2_goOn_98 (lv_at hl 8 rfl) ?_
        obtain ⟨hi, h⟩ := h
        refine R_rl3 hC hK hw hi dX2_goOn_100 ?_
        refine lv_iconst (v := (3 : Int32)) hx hb dX2_goOn_101 (by decide) ?_
        refine lv_iload hx hb dX2_goOn_102 (lv_at hl 0 rfl) ?_
        refine lv_imul hx hb dX2_goOn_104 ?_
        refine lv_isub hx hb dX2_goOn_105 ?_
        refine va_mmax (rest := []) hx hb (hC.2.2.1.trans hl.1.symm) hown (hts (.methodLink RX2 56 Lib.Math.max.name) (List.mem_of_getElem? (i := 3) rfl)) (hts (.static Lib.Math.max.name) (List.mem_of_getElem? (i := 4) rfl)) (hts (.initialized "java/lang/Math") (List.mem_of_getElem? (i := 5) rfl)) (hts (.code Lib.Math.max.name Lib.Math.max.code 2 (some .int)) (List.mem_of_getElem? (i := 6) rfl)) (by simp only [rmm]; omega) (by simp only [rmm, List.map, List.sum_cons, List.sum_nil, Value.category]; omega) (Nat.zero_le _) (Nat.zero_le _) dX2_goOn_106 ?_
        refine lv_topi (fun x15 ex15 => ?_)
        replace h := h x15 ex15
        refine lv_istore (lv' := [(9, .int x15), (8, .int x12), (7, .int x11), (0, .ref (q 0)), (1, .int a1), (2, .int a2), (3, .int a3), (4, .int a4), (5, .int a5), (6, .int x1)]) hx hb dX2_goOn_109 hl (by decide) rfl (fun ls hl => ?_)
        refine lv_aload_n hx hb dX2_goOn_111 rfl (lv_at hl 3 rfl) ?_
        refine lv_iload_n hx hb dX2_goOn_112 rfl (lv_at hl 4 rfl) ?_
        refine lv_iconst (v := (1 : Int32)) hx hb dX2_goOn_113 (by decide) ?_
        refine lv_iadd hx hb dX2_goOn_114 ?_
        refine lv_iload_n hx hb dX2_goOn_115 rfl (lv_at hl 5 rfl) ?_
        refine lv_iconst (v := (1 : Int32)) hx hb dX2_goOn_116 (by decide) ?_
        refine lv_iload hx hb dX2_goOn_117 (lv_at hl 9 rfl) ?_
        refine lv_ishl hx hb dX2_goOn_119 ?_
        refine lv_iconst (v := (-1 : Int32)) hx hb dX2_goOn_120 (by decide) ?_
        refine lv_ixor hx hb dX2_goOn_121 ?_
        refine lv_iand hx hb dX2_goOn_122 ?_
        refine lv_aload_n hx hb dX2_goOn_123 rfl (lv_at hl 3 rfl) ?_
        refine R_rg4 hC hinX2 hK hw (List.mem_of_getElem? (i := 11) rfl) dX2_goOn_124 ?_
        refine lv_iload hx hb dX2_goOn_127 (lv_at hl 9 rfl) ?_
        obtain ⟨hi, h⟩ := h
        refine R_rl4 hC hK hw hi dX2_goOn_129 ?_
        refine lv_iload hx hb dX2_goOn_130 (lv_at hl 2 rfl) ?_
        refine lv_iload hx hb dX2_goOn_132 (lv_at hl 8 rfl) ?_
        refine lv_iload hx hb dX2_goOn_134 (lv_at hl 0 rfl) ?_
        refine lv_iadd hx hb dX2_goOn_136 ?_
        refine mcallv (w1 := (wR g q)) (va_runV (As := [.int (a1 + (1 : Int32)), .int (a2 &&& (((1 : Int32) <<< (x1 &&& 31)) ^^^ (-1 : Int32))), .int (S14 5 x1.toNatClampNeg), .int x11, .int (a5 + x15)]) (rest := []) hC (ihd  H.size S14 (a1 + (1 : Int32)) (a2 &&& (((1 : Int32) <<< (x1 &&& 31)) ^^^ (-1 : Int32))) (S14 5 x1.toNatClampNeg) x11 (a5 + x15) _ h) (cwV 5 hts gX2_goOn_X2_goOn rfl rfl rfl (by decide +kernel) ⟨by simp only [rmm]; omega, by simp only [rmm]; omega⟩) (mpreV (E5_ok aK aV) hK hE hA hw (Sub1.refl _) 0 rfl rfl) rfl rfl hl.1 rfl (lv_room (Nat.le_of_ble_eq_true rfl)) dX2_goOn_137 ⟨Nat.zero_le _, Nat.zero_le _⟩) hA hw (Sub1.refl _) (fun _ => Sub.whole rfl) (fun u17 H locs h hw => ?_)
        obtain ⟨S18, rfl⟩ : ∃ z, z = u17 := ⟨_, rfl⟩
        obtain ⟨x19, ex19⟩ : ∃ y : Int32, y = x1 + (1 : Int32) := ⟨_, rfl⟩
        refine lv_iinc (v := x19) (lv' := [(6, .int x19), (9, .int x15), (8, .int x12), (7, .int x11), (0, .ref (q 0)), (1, .int a1), (2, .int a2), (3, .int a3), (4, .int a4), (5, .int a5)]) hx hb dX2_goOn_140 hl (k := 9) rfl (by rw [ex19]; rfl) (by decide) rfl (fun ls hl => ?_)
        replace h := h x19 ex19
        refine lv_goto (tgt := 19) hx hb dX2_goOn_143 (by decide) ?_
        exact h _ _ _ hw (lv_sub hl [4, 5, 6, 7, 8, 9, 0] rfl)
      · replace h := h.1 c23
        refine lv_goto (tgt := 140) hx hb dX2_goOn_39 (by decide) ?_
        obtain ⟨x21, ex21⟩ : ∃ y : Int32, y = x1 + (1 : Int32) := ⟨_, rfl⟩
        refine lv_iinc (v := x21) (lv' := [(6, .int x21), (0, .ref (q 0)), (1, .int a1), (2, .int a2), (3, .int a3), (4, .int a4), (5, .int a5)]) hx hb dX2_goOn_140 hl (k := 6) rfl (by rw [ex21]; rfl) (by decide) rfl (fun ls hl => ?_)
        replace h := h x21 ex21
        refine lv_goto (tgt := 19) hx hb dX2_goOn_143 (by decide) ?_
        exact h _ _ _ hw (lv_sub hl [1, 2, 3, 4, 5, 6, 0] rfl)
  · replace h := h.2 c28
    refine lv_aload_n hx hb dX2_goOn_8 rfl (lv_at hl 0 rfl) ?_
    refine lv_iload_n hx hb dX2_goOn_9 rfl (lv_at hl 1 rfl) ?_
    refine lv_iload hx hb dX2_goOn_10 (lv_at hl 5 rfl) ?_
    refine mcallv (w1 := (wR g q)) (va_runV (As := [.int a1, .int a5]) (rest := []) hC (kX2_keep l g aK aV q H.size S a1 a5 _ h) (cwV 2 hts gX2_goOn_X2_keep rfl rfl rfl (by decide +kernel) ⟨by simp only [rmm]; omega, by simp only [rmm]; omega⟩) (mpreV (E5_ok aK aV) hK hE hA hw (Sub1.refl _) 0 rfl rfl) rfl rfl hl.1 rfl (lv_room (Nat.le_of_ble_eq_true rfl)) dX2_goOn_12 ⟨Nat.zero_le _, Nat.zero_le _⟩) hA hw (Sub1.refl _) (fun _ => Sub.whole rfl) (fun u26 H locs h hw => ?_)
    obtain ⟨S27, rfl⟩ : ∃ z, z = u26 := ⟨_, rfl⟩
    rw [hQ]
    exact mretv (w := (wR g q)) (u := S27) hC hr hlocks hK hw h dX2_goOn_15
def wX2_search (S : Bun)  (post : Bun → Prop) : Prop :=
  ∀ S1 : Bun, S1 = up S 0 5 (0 : Int32) → wloop (σ := Int32) (fun K3 x2 => (((S1 0 0) ≤ x2 → ∀ x9 : Int32, x9 = ((1 : Int32) <<< ((S1 0 0) &&& 31)) - (1 : Int32) → wX2_goOn 8 S1 (0 : Int32) x9 x9 (0 : Int32) (0 : Int32) (fun S12 => post S12)) ∧ (¬ ((S1 0 0) ≤ x2) → vp_in x2 6 ∧ (((S1 2 x2.toNatClampNeg) = (1000000 : Int32) → post S1) ∧ (¬ ((S1 2 x2.toNatClampNeg) = (1000000 : Int32)) → ∀ x13 : Int32, x13 = x2 + (1 : Int32) → K3 x13))))) (0 : Int32)
set_option maxRecDepth 100000 in
set_option maxHeartbeats 4000000 in
theorem kX2_search (l : Launch) (g : Gl) (aK : Nat → Nat) (aV : Nat → Nat) (q : Nat → Nat) (sz : Nat) (S : Bun)  (post : Bun → Prop) (h : wX2_search S  post) : Met l yX2_search wsX2_search (rmm 11 348) (wPc g (E5 aK aV) ((wR g q) S) sz [.ref (q 0)]) (va_Qv (fun (u : Bun) => post u) (wB g (wR g q) (va_A ((wR g q) S) sz)) (va_A ((wR g q) S) sz)) 0 0 (va_A ((wR g q) S) sz) := by
  refine mstart (Qf := fun A => va_Qv (fun (u : Bun) => post u) (wB g (wR g q) A) A) (by decide) rfl (Nat.le_of_ble_eq_true rfl) ?_
  intro p e s m args below meth c A Q H locs ls hC hr hlocks hname hQ hA hK hE hw hl
  have hC : CallFix p m c cX2_search 2 s args wsX2_search RX2 := hC
  obtain ⟨hx, hb, -, hown, hts⟩ := id hC
  have hl : lv_has ls 2 [(0, .ref (q 0))] := hl
  rw [wX2_search] at h
  have hinX2 : ∀ w ∈ wsX20, w ∈ wsX2_search := fun w hw9 => List.mem_cons_of_mem _ (List.mem_append_right _ hw9)
  refine lv_aload_n hx hb dX2_search_0 rfl (lv_at hl 0 rfl) ?_
  refine lv_iconst (v := (0 : Int32)) hx hb dX2_search_1 (by decide) ?_
  refine R_rp5 hC hinX2 hK hw (List.mem_of_getElem? (i := 1) rfl) dX2_search_2 (fun S1 H locs eS1 hw => ?_)
  replace h := h S1 eS1
  refine lv_iconst (v := (0 : Int32)) hx hb dX2_search_5 (by decide) ?_
  refine lv_istore_n (lv' := [(1, .int (0 : Int32)), (0, .ref (q 0))]) hx hb dX2_search_6 rfl hl (by decide) rfl (fun ls hl => ?_)
  refine h (fun x2 => ∀ (H : Heap) (locs : List Loc) (ls : Array Slot), Wd g.1 A s.heap ((wR g q) S1) H locs → lv_has ls 2 [(0, .ref (q 0)), (1, .int x2)] → W p l e (rmm 11 348) s m args below meth c H locs 0 0 Q (F0 m 7 ls [])) ?_ _ _ _ hw (lv_sub hl [1, 0] rfl)
  clear h hw hl
  rintro x2 h H locs ls hw hl
  refine lv_iload_n hx hb dX2_search_7 rfl (lv_at hl 1 rfl) ?_
  refine lv_aload_n hx hb dX2_search_8 rfl (lv_at hl 0 rfl) ?_
  refine R_rg0 hC hinX2 hK hw (List.mem_of_getElem? (i := 2) rfl) dX2_search_9 ?_
  refine lv_icmp_ge (tgt := 33) hx hb dX2_search_12 (by decide) (fun c16 => ?_) (fun c16 => ?_)
  · replace h := h.1 c16
    refine lv_iconst (v := (1 : Int32)) hx hb dX2_search_33 (by decide) ?_
    refine lv_aload_n hx hb dX2_search_34 rfl (lv_at hl 0 rfl) ?_
    refine R_rg0 hC hinX2 hK hw (List.mem_of_getElem? (i := 2) rfl) dX2_search_35 ?_
    refine lv_ishl hx hb dX2_search_38 ?_
    refine lv_iconst (v := (1 : Int32)) hx hb dX2_search_39 (by decide) ?_
    refine lv_isub hx hb dX2_search_40 ?_
    refine lv_topi (fun x9 ex9 => ?_)
    replace h := h x9 ex9
    refine lv_istore_n (lv' := [(1, .int x9), (0, .ref (q 0))]) hx hb dX2_search_41 rfl hl (by decide) rfl (fun ls hl => ?_)
    refine lv_aload_n hx hb dX2_search_42 rfl (lv_at hl 1 rfl) ?_
    refine lv_iconst (v := (0 : Int32)) hx hb dX2_search_43 (by decide) ?_
    refine lv_iload_n hx hb dX2_search_44 rfl (lv_at hl 0 rfl) ?_
    refine lv_iload_n hx hb dX2_search_45 rfl (lv_at hl 0 rfl) ?_
    refine lv_iconst (v := (0 : Int32)) hx hb dX2_search_46 (by decide) ?_
    refine lv_iconst (v := (0 : Int32)) hx hb dX2_search_47 (by decide) ?_
    refine mcallv (w1 := (wR g q)) (va_runV (As := [.int (0 : Int32), .int x9, .int x9, .int (0 : Int32), .int (0 : Int32)]) (rest := []) hC (kX2_goOn l g aK aV q 8 H.size S1 (0 : Int32) x9 x9 (0 : Int32) (0 : Int32) _ h) (cwV 5 hts gX2_search_X2_goOn rfl rfl rfl (by decide +kernel) ⟨Nat.le_of_ble_eq_true rfl, Nat.le_of_ble_eq_true rfl⟩) (mpreV (E5_ok aK aV) hK hE hA hw (Sub1.refl _) 0 rfl rfl) rfl rfl hl.1 rfl (lv_room (Nat.le_of_ble_eq_true rfl)) dX2_search_48 ⟨Nat.zero_le _, Nat.zero_le _⟩) hA hw (Sub1.refl _) (fun _ => Sub.whole rfl) (fun u11 H locs h hw => ?_)
    obtain ⟨S12, rfl⟩ : ∃ z, z = u11 := ⟨_, rfl⟩
    rw [hQ]
    exact mretv (w := (wR g q)) (u := S12) hC hr hlocks hK hw h dX2_search_51
  · replace h := h.2 c16
    refine lv_aload_n hx hb dX2_search_15 rfl (lv_at hl 0 rfl) ?_
    refine R_rg1 hC hinX2 hK hw (List.mem_of_getElem? (i := 3) rfl) dX2_search_16 ?_
    refine lv_iload_n hx hb dX2_search_19 rfl (lv_at hl 1 rfl) ?_
    obtain ⟨hi, h⟩ := h
    refine R_rl1 hC hK hw hi dX2_search_20 ?_
    refine lv_ldc (v := (1000000 : Int32)) hx hb hown (hts (.constant RX2 43 (1000000)) (List.mem_of_getElem? (i := 4) rfl)) dX2_search_21 ?_
    refine lv_icmp_ne (tgt := 27) hx hb dX2_search_23 (by decide) (fun c15 => ?_) (fun c15 => ?_)
    · replace h := h.2 c15
      obtain ⟨x13, ex13⟩ : ∃ y : Int32, y = x2 + (1 : Int32) := ⟨_, rfl⟩
      refine lv_iinc (v := x13) (lv' := [(1, .int x13), (0, .ref (q 0))]) hx hb dX2_search_27 hl (k := 1) rfl (by rw [ex13]; rfl) (by decide) rfl (fun ls hl => ?_)
      replace h := h x13 ex13
      refine lv_goto (tgt := 7) hx hb dX2_search_30 (by decide) ?_
      exact h _ _ _ hw (lv_sub hl [1, 0] rfl)
    · replace h := h.1 c15
      rw [hQ]
      exact mretv (w := (wR g q)) (u := S1) hC hr hlocks hK hw h dX2_search_26
def wJ7_fill_d0a16 (f : Nat → Int64) (a2 : Int64) (post : (Nat → Int64) → Prop) : Prop :=
  wloop (σ := Int32 × (Nat → Int64)) (fun K3 z => match z with | (x1, f2) => (((40 : Int32) ≤ x1 → post f2) ∧ (¬ ((40 : Int32) ≤ x1) → vp_in x1 40 ∧ ∀ f9 : Nat → Int64, f9 = vp_updL f2 x1.toNatClampNeg a2 → ∀ x10 : Int32, x10 = x1 + (1 : Int32) → K3 (x10, f9)))) ((0 : Int32), f)
set_option maxRecDepth 100000 in
set_option maxHeartbeats 4000000 in
theorem kJ7_fill_d0a16 (l : Launch) (g : Gl) (aK : Nat → Nat) (aV : Nat → Nat) (a : Nat) (sz : Nat) (f : Nat → Int64) (a2 : Int64) (post : (Nat → Int64) → Prop) (h : wJ7_fill_d0a16 f a2 post) : Met l yJ7_fill_d0a16 wsJ7_fill_d0a16 (rmm 0 0) (wPc g (E5 aK aV) ((wL40 g a) f) sz [.ref a, .long a2]) (va_Qv (fun (u : (Nat → Int64)) => post u) (wB g (wL40 g a) (va_A ((wL40 g a) f) sz)) (va_A ((wL40 g a) f) sz)) 0 0 (va_A ((wL40 g a) f) sz) := by
  refine mstart (Qf := fun A => va_Qv (fun (u : (Nat → Int64)) => post u) (wB g (wL40 g a) A) A) (by decide) rfl (Nat.le_of_ble_eq_true rfl) ?_
  intro p e s m args below meth c A Q H locs ls hC hr hlocks hname hQ hA hK hE hw hl
  have hC : CallFix p m c cJ7_fill_d0a16 5 s args wsJ7_fill_d0a16 RJ7 := hC
  obtain ⟨hx, hb, -, hown, hts⟩ := id hC
  have hl : lv_has ls 5 [(0, .ref a), (1, .long a2)] := hl
  rw [wJ7_fill_d0a16] at h
  refine lv_iconst (v := (0 : Int32)) hx hb dJ7_fill_d0a16_0 (by decide) ?_
  refine lv_istore_n (lv' := [(3, .int (0 : Int32)), (0, .ref a), (1, .long a2)]) hx hb dJ7_fill_d0a16_1 rfl hl (by decide) rfl (fun ls hl => ?_)
  refine lv_aload_n hx hb dJ7_fill_d0a16_2 rfl (lv_at hl 1 rfl) ?_
  refine va_alen hx hb hK hw.1 0 1 rfl rfl (v := (40 : Int32)) rfl dJ7_fill_d0a16_3 ?_
  refine lv_istore (lv' := [(4, .int (40 : Int32)), (3, .int (0 : Int32)), (0, .ref a), (1, .long a2)]) hx hb dJ7_fill_d0a16_4 hl (by decide) rfl (fun ls hl => ?_)
  refine h (fun z => match z with | (x1, f2) => ∀ (H : Heap) (locs : List Loc) (ls : Array Slot), Wd g.1 A s.heap ((wL40 g a) f2) H locs → lv_has ls 5 [(0, .ref a), (1, .long a2), (3, .int x1), (4, .int (40 : Int32))] → W p l e (rmm 0 0) s m args below meth c H locs 0 0 Q (F0 m 6 ls [])) ?_ _ _ _ hw (lv_sub hl [2, 3, 1, 0] rfl)
  clear h hw hl
  rintro ⟨x1, f2⟩ h H locs ls hw hl
  refine lv_iload_n hx hb dJ7_fill_d0a16_6 rfl (lv_at hl 2 rfl) ?_
  refine lv_iload hx hb dJ7_fill_d0a16_7 (lv_at hl 3 rfl) ?_
  refine lv_icmp_ge (tgt := 22) hx hb dJ7_fill_d0a16_9 (by decide) (fun c12 => ?_) (fun c12 => ?_)
  · replace h := h.1 c12
    rw [hQ]
    exact mretv (w := (wL40 g a)) (u := f2) hC hr hlocks hK hw h dJ7_fill_d0a16_22
  · replace h := h.2 c12
    refine lv_aload_n hx hb dJ7_fill_d0a16_12 rfl (lv_at hl 0 rfl) ?_
    refine lv_iload_n hx hb dJ7_fill_d0a16_13 rfl (lv_at hl 2 rfl) ?_
    refine lv_lload_n hx hb dJ7_fill_d0a16_14 rfl (lv_at hl 1 rfl) ?_
    obtain ⟨hi, h⟩ := h
    obtain ⟨f9, ef9⟩ : ∃ z, z = vp_updL f2 x1.toNatClampNeg a2 := ⟨_, rfl⟩
    replace h := h f9 ef9
    refine va_last hx hb hK hw.1 hw.2.1 hw.2.2 0 1 rfl rfl hi dJ7_fill_d0a16_15 (fun H locs hP hD hS => ?_)
    replace hw : Wd g.1 A s.heap ((wL40 g a) f9) H locs := by rw [ef9]; exact ⟨hP, hD, hS⟩
    obtain ⟨x10, ex10⟩ : ∃ y : Int32, y = x1 + (1 : Int32) := ⟨_, rfl⟩
    refine lv_iinc (v := x10) (lv' := [(3, .int x10), (0, .ref a), (1, .long a2), (4, .int (40 : Int32))]) hx hb dJ7_fill_d0a16_16 hl (k := 2) rfl (by rw [ex10]; rfl) (by decide) rfl (fun ls hl => ?_)
    replace h := h x10 ex10
    refine lv_goto (tgt := 6) hx hb dJ7_fill_d0a16_19 (by decide) ?_
    exact h _ _ _ hw (lv_sub hl [1, 2, 0, 3] rfl)
def wX3_begin (S : Bun) (J : Lon) (a1 : Int32) (a2 : Int32) (post : Bun → Lon → Prop) : Prop :=
  ∀ S1 : Bun, S1 = up S 0 0 a1 → wjoin (σ := Int32) (fun y2 => ∀ S6 : Bun, S6 = up S1 0 1 y2 → wJ7_fill_d0a16 (J 3) (0 : Int64) (fun f9 => ∀ J10 : Lon, J10 = va_up J 3 f9 → post S6 J10)) (fun J3 => ((a1 = 0 → J3 (0 : Int32)) ∧ (¬ (a1 = 0) → J3 a2)))
set_option maxRecDepth 100000 in
set_option maxHeartbeats 4000000 in
theorem kX3_begin (l : Launch) (g : Gl) (aK : Nat → Nat) (aV : Nat → Nat) (q : Nat → Nat) (sz : Nat) (S : Bun) (J : Lon) (a1 : Int32) (a2 : Int32) (post : Bun → Lon → Prop) (h : wX3_begin S J a1 a2 post) : Met l yX3_begin wsX3_begin (rmm 1 24) (wPc g (E5 aK aV) ((wH g q) (S, J)) sz [.ref (q 0), .int a1, .int a2]) (va_Qv (fun (u : Bun × Lon) => post u.1 u.2) (wB g (wH g q) (va_A ((wH g q) (S, J)) sz)) (va_A ((wH g q) (S, J)) sz)) 0 0 (va_A ((wH g q) (S, J)) sz) := by
  refine mstart (Qf := fun A => va_Qv (fun (u : Bun × Lon) => post u.1 u.2) (wB g (wH g q) A) A) (by decide) rfl (Nat.le_of_ble_eq_true rfl) ?_
  intro p e s m args below meth c A Q H locs ls hC hr hlocks hname hQ hA hK hE hw hl
  have hC : CallFix p m c cX3_begin 3 s args wsX3_begin RX3 := hC
  obtain ⟨hx, hb, -, hown, hts⟩ := id hC
  have hl : lv_has ls 3 [(0, .ref (q 0)), (1, .int a1), (2, .int a2)] := hl
  rw [wX3_begin] at h
  have hinX3 : ∀ w ∈ wsX30, w ∈ wsX3_begin := fun w hw9 => List.mem_cons_of_mem _ (List.mem_append_right _ hw9)
  refine lv_aload_n hx hb dX3_begin_0 rfl (lv_at hl 0 rfl) ?_
  refine lv_iload_n hx hb dX3_begin_1 rfl (lv_at hl 1 rfl) ?_
  refine H_hp0 hC hinX3 hK hw (List.mem_of_getElem? (i := 1) rfl) dX3_begin_2 (fun S1 H locs eS1 hw => ?_)
  replace h := h S1 eS1
  refine lv_aload_n hx hb dX3_begin_5 rfl (lv_at hl 0 rfl) ?_
  refine lv_iload_n hx hb dX3_begin_6 rfl (lv_at hl 1 rfl) ?_
  obtain ⟨J3, hJ4, h⟩ := h
  have join5 : ∀ (y2 : Int32) (H : Heap) (locs : List Loc) (ls : Array Slot), J3 y2 → Wd g.1 A s.heap ((wH g q) (S1, J)) H locs → lv_has ls 3 [(0, .ref (q 0))] → W p l e (rmm 1 24) s m args below meth c H locs 0 0 Q (F0 m 15 ls [.int y2, .ref (q 0)]) := by
    intro y2 H locs ls h hw hl
    replace h := hJ4 y2 h
    refine H_hp1 hC hinX3 hK hw (List.mem_of_getElem? (i := 2) rfl) dX3_begin_15 (fun S6 H locs eS6 hw => ?_)
    replace h := h S6 eS6
    refine lv_aload_n hx hb dX3_begin_18 rfl (lv_at hl 0 rfl) ?_
    refine H_hg2 hC hinX3 hK hw (List.mem_of_getElem? (i := 3) rfl) dX3_begin_19 ?_
    refine lv_lconst (v := (0 : Int64)) hx hb dX3_begin_22 (by decide) ?_
    refine mcallv (w1 := (fun f9 => (wH g q) (S6, (va_up J 3 f9)))) (va_runS (As := [.ref (q 3), .long (0 : Int64)]) (rest := []) hC (kJ7_fill_d0a16 l g aK aV (q 3) H.size (J 3) (0 : Int64) _ h) (va_cwS 2 hts gX3_begin_J7_fill_d0a16 rfl rfl rfl (by decide +kernel) ⟨Nat.le_of_ble_eq_true rfl, Nat.le_of_ble_eq_true rfl⟩) (mpre (E5_ok aK aV) hK hE hA hw (H_ah2_1 g)) rfl rfl hl.1 rfl (lv_room (Nat.le_of_ble_eq_true rfl)) dX3_begin_23 ⟨Nat.zero_le _, Nat.zero_le _⟩) hA hw (H_ah2_1 g) (fun f9 => H_ah2 g f9) (fun u8 H locs h hw => ?_)
    obtain ⟨f9, rfl⟩ : ∃ z, z = u8 := ⟨_, rfl⟩
    obtain ⟨J10, eJ10⟩ : ∃ z, z = va_up J 3 f9 := ⟨_, rfl⟩
    replace h := h J10 eJ10
    replace hw : Wd g.1 A s.heap ((wH g q) (S6, J10)) H locs := by rw [eJ10]; exact hw
    rw [hQ]
    exact mretv (w := (wH g q)) (u := (S6, J10)) hC hr hlocks hK hw h dX3_begin_26
  refine lv_if_ne (tgt := 14) hx hb dX3_begin_7 (by decide) (fun c11 => ?_) (fun c11 => ?_)
  · replace h := h.2 c11
    refine lv_iload_n hx hb dX3_begin_14 rfl (lv_at hl 2 rfl) ?_
    exact join5 a2 _ _ _ h hw (lv_sub hl [0] rfl)
  · replace h := h.1 c11
    refine lv_iconst (v := (0 : Int32)) hx hb dX3_begin_10 (by decide) ?_
    refine lv_goto (tgt := 15) hx hb dX3_begin_11 (by decide) ?_
    exact join5 (0 : Int32) _ _ _ h hw (lv_sub hl [0] rfl)
def wX3_hasNumbers (S : Bun) (J : Lon) (a1 : Int32) (a2 : Int32) (post : Int32 → Prop) : Prop :=
  ((a1 < 0 → post (0 : Int32)) ∧ (¬ (a1 < 0) → ((a2 < 0 → post (0 : Int32)) ∧ (¬ (a2 < 0) → (((S 0 1) < a1 → post (0 : Int32)) ∧ (¬ ((S 0 1) < a1) → ((((S 0 1) - a1) < a2 → post (0 : Int32)) ∧ (¬ (((S 0 1) - a1) < a2) → post (1 : Int32)))))))))
set_option maxRecDepth 100000 in
set_option maxHeartbeats 4000000 in
theorem kX3_hasNumbers (l : Launch) (g : Gl) (aK : Nat → Nat) (aV : Nat → Nat) (q : Nat → Nat) (sz : Nat) (S : Bun) (J : Lon) (a1 : Int32) (a2 : Int32) (post : Int32 → Prop) (h : wX3_hasNumbers S J a1 a2 post) : Met l yX3_hasNumbers wsX3_hasNumbers (rmm 0 0) (wPc g (E5 aK aV) ((wH g q) (S, J)) sz [.ref (q 0), .int a1, .int a2]) (va_Qi (fun (r : Int32) (u : Bun × Lon) => u = (S, J) ∧ post r) (wB g (wH g q) (va_A ((wH g q) (S, J)) sz)) (va_A ((wH g q) (S, J)) sz)) 0 0 (va_A ((wH g q) (S, J)) sz) := by
  refine mstart (Qf := fun A => va_Qi (fun (r : Int32) (u : Bun × Lon) => u = (S, J) ∧ post r) (wB g (wH g q) A) A) (by decide) rfl (Nat.le_of_ble_eq_true rfl) ?_
  intro p e s m args below meth c A Q H locs ls hC hr hlocks hname hQ hA hK hE hw hl
  have hC : CallFix p m c cX3_hasNumbers 3 s args wsX3_hasNumbers RX3 := hC
  obtain ⟨hx, hb, -, hown, hts⟩ := id hC
  have hl : lv_has ls 3 [(0, .ref (q 0)), (1, .int a1), (2, .int a2)] := hl
  rw [wX3_hasNumbers] at h
  have hinX3 : ∀ w ∈ wsX30, w ∈ wsX3_hasNumbers := fun w hw9 => List.mem_cons_of_mem _ (List.mem_append_right _ hw9)
  refine lv_iload_n hx hb dX3_hasNumbers_0 rfl (lv_at hl 1 rfl) ?_
  refine lv_if_lt (tgt := 30) hx hb dX3_hasNumbers_1 (by decide) (fun c4 => ?_) (fun c4 => ?_)
  · replace h := h.1 c4
    refine lv_iconst (v := (0 : Int32)) hx hb dX3_hasNumbers_30 (by decide) ?_
    rw [hQ]
    exact mretz (w := (wH g q)) (u := (S, J)) hC hr hlocks hK hw (Or.inl rfl) ⟨rfl, h⟩ dX3_hasNumbers_31
  · replace h := h.2 c4
    refine lv_iload_n hx hb dX3_hasNumbers_4 rfl (lv_at hl 2 rfl) ?_
    refine lv_if_lt (tgt := 30) hx hb dX3_hasNumbers_5 (by decide) (fun c3 => ?_) (fun c3 => ?_)
    · replace h := h.1 c3
      refine lv_iconst (v := (0 : Int32)) hx hb dX3_hasNumbers_30 (by decide) ?_
      rw [hQ]
      exact mretz (w := (wH g q)) (u := (S, J)) hC hr hlocks hK hw (Or.inl rfl) ⟨rfl, h⟩ dX3_hasNumbers_31
    · replace h := h.2 c3
      refine lv_iload_n hx hb dX3_hasNumbers_8 rfl (lv_at hl 1 rfl) ?_
      refine lv_aload_n hx hb dX3_hasNumbers_9 rfl (lv_at hl 0 rfl) ?_
      refine H_hg1 hC hinX3 hK hw (List.mem_of_getElem? (i := 1) rfl) dX3_hasNumbers_10 ?_
      refine lv_icmp_gt (tgt := 30) hx hb dX3_hasNumbers_13 (by decide) (fun c2 => ?_) (fun c2 => ?_)
      · replace h := h.1 c2
        refine lv_iconst (v := (0 : Int32)) hx hb dX3_hasNumbers_30 (by decide) ?_
        rw [hQ]
        exact mretz (w := (wH g q)) (u := (S, J)) hC hr hlocks hK hw (Or.inl rfl) ⟨rfl, h⟩ dX3_hasNumbers_31
      · replace h := h.2 c2
        refine lv_iload_n hx hb dX3_hasNumbers_16 rfl (lv_at hl 2 rfl) ?_
        refine lv_aload_n hx hb dX3_hasNumbers_17 rfl (lv_at hl 0 rfl) ?_
        refine H_hg1 hC hinX3 hK hw (List.mem_of_getElem? (i := 1) rfl) dX3_hasNumbers_18 ?_
        refine lv_iload_n hx hb dX3_hasNumbers_21 rfl (lv_at hl 1 rfl) ?_
        refine lv_isub hx hb dX3_hasNumbers_22 ?_
        refine lv_icmp_gt (tgt := 30) hx hb dX3_hasNumbers_23 (by decide) (fun c1 => ?_) (fun c1 => ?_)
        · replace h := h.1 c1
          refine lv_iconst (v := (0 : Int32)) hx hb dX3_hasNumbers_30 (by decide) ?_
          rw [hQ]
          exact mretz (w := (wH g q)) (u := (S, J)) hC hr hlocks hK hw (Or.inl rfl) ⟨rfl, h⟩ dX3_hasNumbers_31
        · replace h := h.2 c1
          refine lv_iconst (v := (1 : Int32)) hx hb dX3_hasNumbers_26 (by decide) ?_
          refine lv_goto (tgt := 31) hx hb dX3_hasNumbers_27 (by decide) ?_
          rw [hQ]
          exact mretz (w := (wH g q)) (u := (S, J)) hC hr hlocks hK hw (Or.inr rfl) ⟨rfl, h⟩ dX3_hasNumbers_31
def wX3_put (S : Bun) (J : Lon) (a1 : Int32) (a2 : Int64) (post : Bun → Lon → Prop) : Prop :=
  (((S 0 0) = (8 : Int32) → vp_in a1 40 ∧ ∀ J4 : Lon, J4 = upL J 3 a1.toNatClampNeg a2.toInt32.toInt8.toInt32.toInt64 → post S J4) ∧ (¬ ((S 0 0) = (8 : Int32)) → (((S 0 0) = (16 : Int32) → vp_in a1 40 ∧ ∀ J2 : Lon, J2 = upL J 3 a1.toNatClampNeg a2.toInt32.toInt16.toInt32.toInt64 → post S J2) ∧ (¬ ((S 0 0) = (16 : Int32)) → vp_in a1 40 ∧ ∀ J1 : Lon, J1 = upL J 3 a1.toNatClampNeg a2 → post S J1))))
set_option maxRecDepth 100000 in
set_option maxHeartbeats 4000000 in
theorem kX3_put (l : Launch) (g : Gl) (aK : Nat → Nat) (aV : Nat → Nat) (q : Nat → Nat) (sz : Nat) (S : Bun) (J : Lon) (a1 : Int32) (a2 : Int64) (post : Bun → Lon → Prop) (h : wX3_put S J a1 a2 post) : Met l yX3_put wsX3_put (rmm 0 0) (wPc g (E5 aK aV) ((wH g q) (S, J)) sz [.ref (q 0), .int a1, .long a2]) (va_Qv (fun (u : Bun × Lon) => post u.1 u.2) (wB g (wH g q) (va_A ((wH g q) (S, J)) sz)) (va_A ((wH g q) (S, J)) sz)) 0 0 (va_A ((wH g q) (S, J)) sz) := by
  refine mstart (Qf := fun A => va_Qv (fun (u : Bun × Lon) => post u.1 u.2) (wB g (wH g q) A) A) (by decide) rfl (Nat.le_of_ble_eq_true rfl) ?_
  intro p e s m args below meth c A Q H locs ls hC hr hlocks hname hQ hA hK hE hw hl
  have hC : CallFix p m c cX3_put 4 s args wsX3_put RX3 := hC
  obtain ⟨hx, hb, -, hown, hts⟩ := id hC
  have hl : lv_has ls 4 [(0, .ref (q 0)), (1, .int a1), (2, .long a2)] := hl
  rw [wX3_put] at h
  have hinX3 : ∀ w ∈ wsX30, w ∈ wsX3_put := fun w hw9 => List.mem_cons_of_mem _ (List.mem_append_right _ hw9)
  refine lv_aload_n hx hb dX3_put_0 rfl (lv_at hl 0 rfl) ?_
  refine H_hg0 hC hinX3 hK hw (List.mem_of_getElem? (i := 1) rfl) dX3_put_1 ?_
  refine lv_bipush (v := (8 : Int32)) hx hb dX3_put_4 (by decide) ?_
  refine lv_icmp_ne (tgt := 22) hx hb dX3_put_6 (by decide) (fun c5 => ?_) (fun c5 => ?_)
  · replace h := h.2 c5
    refine lv_aload_n hx hb dX3_put_22 rfl (lv_at hl 0 rfl) ?_
    refine H_hg0 hC hinX3 hK hw (List.mem_of_getElem? (i := 1) rfl) dX3_put_23 ?_
    refine lv_bipush (v := (16 : Int32)) hx hb dX3_put_26 (by decide) ?_
    refine lv_icmp_ne (tgt := 44) hx hb dX3_put_28 (by decide) (fun c3 => ?_) (fun c3 => ?_)
    · replace h := h.2 c3
      refine lv_aload_n hx hb dX3_put_44 rfl (lv_at hl 0 rfl) ?_
      refine H_hg2 hC hinX3 hK hw (List.mem_of_getElem? (i := 2) rfl) dX3_put_45 ?_
      refine lv_iload_n hx hb dX3_put_48 rfl (lv_at hl 1 rfl) ?_
      refine lv_lload_n hx hb dX3_put_49 rfl (lv_at hl 2 rfl) ?_
      obtain ⟨hi, h⟩ := h
      refine H_hs2 hC hK hw hi dX3_put_50 (fun J1 H locs eJ1 hw => ?_)
      replace h := h J1 eJ1
      rw [hQ]
      exact mretv (w := (wH g q)) (u := (S, J1)) hC hr hlocks hK hw h dX3_put_51
    · replace h := h.1 c3
      refine lv_aload_n hx hb dX3_put_31 rfl (lv_at hl 0 rfl) ?_
      refine H_hg2 hC hinX3 hK hw (List.mem_of_getElem? (i := 2) rfl) dX3_put_32 ?_
      refine lv_iload_n hx hb dX3_put_35 rfl (lv_at hl 1 rfl) ?_
      refine lv_lload_n hx hb dX3_put_36 rfl (lv_at hl 2 rfl) ?_
      refine lv_l2i (v := a2.toInt32) hx hb dX3_put_37 rfl ?_
      refine lv_i2s (v := a2.toInt32.toInt16.toInt32) hx hb dX3_put_38 rfl ?_
      refine lv_i2l (v := a2.toInt32.toInt16.toInt32.toInt64) hx hb dX3_put_39 rfl ?_
      obtain ⟨hi, h⟩ := h
      refine H_hs2 hC hK hw hi dX3_put_40 (fun J2 H locs eJ2 hw => ?_)
      replace h := h J2 eJ2
      refine lv_goto (tgt := 51) hx hb dX3_put_41 (by decide) ?_
      rw [hQ]
      exact mretv (w := (wH g q)) (u := (S, J2)) hC hr hlocks hK hw h dX3_put_51
  · replace h := h.1 c5
    refine lv_aload_n hx hb dX3_put_9 rfl (lv_at hl 0 rfl) ?_
    refine H_hg2 hC hinX3 hK hw (List.mem_of_getElem? (i := 2) rfl) dX3_put_10 ?_
    refine lv_iload_n hx hb dX3_put_13 rfl (lv_at hl 1 rfl) ?_
    refine lv_lload_n hx hb dX3_put_14 rfl (lv_at hl 2 rfl) ?_
    refine lv_l2i (v := a2.toInt32) hx hb dX3_put_15 rfl ?_
    refine lv_i2b (v := a2.toInt32.toInt8.toInt32) hx hb dX3_put_16 rfl ?_
    refine lv_i2l (v := a2.toInt32.toInt8.toInt32.toInt64) hx hb dX3_put_17 rfl ?_
    obtain ⟨hi, h⟩ := h
    refine H_hs2 hC hK hw hi dX3_put_18 (fun J4 H locs eJ4 hw => ?_)
    replace h := h J4 eJ4
    refine lv_goto (tgt := 51) hx hb dX3_put_19 (by decide) ?_
    rw [hQ]
    exact mretv (w := (wH g q)) (u := (S, J4)) hC hr hlocks hK hw h dX3_put_51
def wX4_append (T : Bun) (a1 : Int32) (post : Bun → Prop) : Prop :=
  (((120 : Int32) ≤ (T 0 1) → post T) ∧ (¬ ((120 : Int32) ≤ (T 0 1)) → vp_in (T 0 1) 120 ∧ ∀ T1 : Bun, T1 = up T 1 (T 0 1).toNatClampNeg a1 → ∀ T2 : Bun, T2 = up T1 0 1 ((T1 0 1) + (1 : Int32)) → post T2))
set_option maxRecDepth 100000 in
set_option maxHeartbeats 4000000 in
theorem kX4_append (l : Launch) (g : Gl) (aK : Nat → Nat) (aV : Nat → Nat) (q : Nat → Nat) (sz : Nat) (T : Bun) (a1 : Int32) (post : Bun → Prop) (h : wX4_append T a1 post) : Met l yX4_append wsX4_append (rmm 0 0) (wPc g (E5 aK aV) ((wT g q) T) sz [.ref (q 0), .int a1]) (va_Qv (fun (u : Bun) => post u) (wB g (wT g q) (va_A ((wT g q) T) sz)) (va_A ((wT g q) T) sz)) 0 0 (va_A ((wT g q) T) sz) := by
  refine mstart (Qf := fun A => va_Qv (fun (u : Bun) => post u) (wB g (wT g q) A) A) (by decide) rfl (Nat.le_of_ble_eq_true rfl) ?_
  intro p e s m args below meth c A Q H locs ls hC hr hlocks hname hQ hA hK hE hw hl
  have hC : CallFix p m c cX4_append 2 s args wsX4_append RX4 := hC
  obtain ⟨hx, hb, -, hown, hts⟩ := id hC
  have hl : lv_has ls 2 [(0, .ref (q 0)), (1, .int a1)] := hl
  rw [wX4_append] at h
  have hinX4 : ∀ w ∈ wsX40, w ∈ wsX4_append := fun w hw9 => List.mem_cons_of_mem _ (List.mem_append_right _ hw9)
  refine lv_aload_n hx hb dX4_append_0 rfl (lv_at hl 0 rfl) ?_
  refine T_tg1 hC hinX4 hK hw (List.mem_of_getElem? (i := 1) rfl) dX4_append_1 ?_
  refine lv_bipush (v := (120 : Int32)) hx hb dX4_append_4 (by decide) ?_
  refine lv_icmp_ge (tgt := 29) hx hb dX4_append_6 (by decide) (fun c3 => ?_) (fun c3 => ?_)
  · replace h := h.1 c3
    rw [hQ]
    exact mretv (w := (wT g q)) (u := T) hC hr hlocks hK hw h dX4_append_29
  · replace h := h.2 c3
    refine lv_aload_n hx hb dX4_append_9 rfl (lv_at hl 0 rfl) ?_
    refine T_tg0 hC hinX4 hK hw (List.mem_of_getElem? (i := 2) rfl) dX4_append_10 ?_
    refine lv_aload_n hx hb dX4_append_13 rfl (lv_at hl 0 rfl) ?_
    refine T_tg1 hC hinX4 hK hw (List.mem_of_getElem? (i := 1) rfl) dX4_append_14 ?_
    refine lv_iload_n hx hb dX4_append_17 rfl (lv_at hl 1 rfl) ?_
    obtain ⟨hi, h⟩ := h
    refine T_ts0 hC hK hw hi dX4_append_18 (fun T1 H locs eT1 hw => ?_)
    replace h := h T1 eT1
    refine lv_aload_n hx hb dX4_append_19 rfl (lv_at hl 0 rfl) ?_
    refine lv_dup hx hb dX4_append_20 rfl ?_
    refine T_tg1 hC hinX4 hK hw (List.mem_of_getElem? (i := 1) rfl) dX4_append_21 ?_
    refine lv_iconst (v := (1 : Int32)) hx hb dX4_append_24 (by decide) ?_
    refine lv_iadd hx hb dX4_append_25 ?_
    refine T_tp1 hC hinX4 hK hw (List.mem_of_getElem? (i := 1) rfl) dX4_append_26 (fun T2 H locs eT2 hw => ?_)
    replace h := h T2 eT2
    rw [hQ]
    exact mretv (w := (wT g q)) (u := T2) hC hr hlocks hK hw h dX4_append_29
def wX4_isLetter  (a1 : Int32) (post : Int32 → Prop) : Prop :=
  ((a1 < (97 : Int32) → post (0 : Int32)) ∧ (¬ (a1 < (97 : Int32)) → (((122 : Int32) < a1 → post (0 : Int32)) ∧ (¬ ((122 : Int32) < a1) → post (1 : Int32)))))
set_option maxRecDepth 100000 in
set_option maxHeartbeats 4000000 in
theorem kX4_isLetter (l : Launch) (g : Gl) (aK : Nat → Nat) (aV : Nat → Nat)  (sz : Nat)  (a1 : Int32) (post : Int32 → Prop) (h : wX4_isLetter  a1 post) : Met l yX4_isLetter wsX4_isLetter (rmm 0 0) (wPc g (E5 aK aV) (([] : va_W)) sz [.int a1]) (va_Qi (fun (r : Int32) (u : Unit) => u = () ∧ post r) (wB g (fun _ : Unit => ([] : va_W)) (va_A (([] : va_W)) sz)) (va_A (([] : va_W)) sz)) 0 0 (va_A (([] : va_W)) sz) := by
  refine mstart (Qf := fun A => va_Qi (fun (r : Int32) (u : Unit) => u = () ∧ post r) (wB g (fun _ : Unit => ([] : va_W)) A) A) (by decide) rfl (Nat.le_of_ble_eq_true rfl) ?_
  intro p e s m args below meth c A Q H locs ls hC hr hlocks hname hQ hA hK hE hw hl
  have hC : CallFix p m c cX4_isLetter 1 s args wsX4_isLetter RX4 := hC
  obtain ⟨hx, hb, -, hown, hts⟩ := id hC
  have hl : lv_has ls 1 [(0, .int a1)] := hl
  rw [wX4_isLetter] at h
  refine lv_iload_n hx hb dX4_isLetter_0 rfl (lv_at hl 0 rfl) ?_
  refine lv_bipush (v := (97 : Int32)) hx hb dX4_isLetter_1 (by decide) ?_
  refine lv_icmp_lt (tgt := 16) hx hb dX4_isLetter_3 (by decide) (fun c2 => ?_) (fun c2 => ?_)
  · replace h := h.1 c2
    refine lv_iconst (v := (0 : Int32)) hx hb dX4_isLetter_16 (by decide) ?_
    rw [hQ]
    exact mretz (w := (fun _ : Unit => ([] : va_W))) (u := ()) hC hr hlocks hK hw (Or.inl rfl) ⟨rfl, h⟩ dX4_isLetter_17
  · replace h := h.2 c2
    refine lv_iload_n hx hb dX4_isLetter_6 rfl (lv_at hl 0 rfl) ?_
    refine lv_bipush (v := (122 : Int32)) hx hb dX4_isLetter_7 (by decide) ?_
    refine lv_icmp_gt (tgt := 16) hx hb dX4_isLetter_9 (by decide) (fun c1 => ?_) (fun c1 => ?_)
    · replace h := h.1 c1
      refine lv_iconst (v := (0 : Int32)) hx hb dX4_isLetter_16 (by decide) ?_
      rw [hQ]
      exact mretz (w := (fun _ : Unit => ([] : va_W))) (u := ()) hC hr hlocks hK hw (Or.inl rfl) ⟨rfl, h⟩ dX4_isLetter_17
    · replace h := h.2 c1
      refine lv_iconst (v := (1 : Int32)) hx hb dX4_isLetter_12 (by decide) ?_
      refine lv_goto (tgt := 17) hx hb dX4_isLetter_13 (by decide) ?_
      rw [hQ]
      exact mretz (w := (fun _ : Unit => ([] : va_W))) (u := ()) hC hr hlocks hK hw (Or.inr rfl) ⟨rfl, h⟩ dX4_isLetter_17
def wX4_isDigit  (a1 : Int32) (post : Int32 → Prop) : Prop :=
  ((a1 < (48 : Int32) → post (0 : Int32)) ∧ (¬ (a1 < (48 : Int32)) → (((57 : Int32) < a1 → post (0 : Int32)) ∧ (¬ ((57 : Int32) < a1) → post (1 : Int32)))))
set_option maxRecDepth 100000 in
set_option maxHeartbeats 4000000 in
theorem kX4_isDigit (l : Launch) (g : Gl) (aK : Nat → Nat) (aV : Nat → Nat)  (sz : Nat)  (a1 : Int32) (post : Int32 → Prop) (h : wX4_isDigit  a1 post) : Met l yX4_isDigit wsX4_isDigit (rmm 0 0) (wPc g (E5 aK aV) (([] : va_W)) sz [.int a1]) (va_Qi (fun (r : Int32) (u : Unit) => u = () ∧ post r) (wB g (fun _ : Unit => ([] : va_W)) (va_A (([] : va_W)) sz)) (va_A (([] : va_W)) sz)) 0 0 (va_A (([] : va_W)) sz) := by
  refine mstart (Qf := fun A => va_Qi (fun (r : Int32) (u : Unit) => u = () ∧ post r) (wB g (fun _ : Unit => ([] : va_W)) A) A) (by decide) rfl (Nat.le_of_ble_eq_true rfl) ?_
  intro p e s m args below meth c A Q H locs ls hC hr hlocks hname hQ hA hK hE hw hl
  have hC : CallFix p m c cX4_isDigit 1 s args wsX4_isDigit RX4 := hC
  obtain ⟨hx, hb, -, hown, hts⟩ := id hC
  have hl : lv_has ls 1 [(0, .int a1)] := hl
  rw [wX4_isDigit] at h
  refine lv_iload_n hx hb dX4_isDigit_0 rfl (lv_at hl 0 rfl) ?_
  refine lv_bipush (v := (48 : Int32)) hx hb dX4_isDigit_1 (by decide) ?_
  refine lv_icmp_lt (tgt := 16) hx hb dX4_isDigit_3 (by decide) (fun c2 => ?_) (fun c2 => ?_)
  · replace h := h.1 c2
    refine lv_iconst (v := (0 : Int32)) hx hb dX4_isDigit_16 (by decide) ?_
    rw [hQ]
    exact mretz (w := (fun _ : Unit => ([] : va_W))) (u := ()) hC hr hlocks hK hw (Or.inl rfl) ⟨rfl, h⟩ dX4_isDigit_17
  · replace h := h.2 c2
    refine lv_iload_n hx hb dX4_isDigit_6 rfl (lv_at hl 0 rfl) ?_
    refine lv_bipush (v := (57 : Int32)) hx hb dX4_isDigit_7 (by decide) ?_
    refine lv_icmp_gt (tgt := 16) hx hb dX4_isDigit_9 (by decide) (fun c1 => ?_) (fun c1 => ?_)
    · replace h := h.1 c1
      refine lv_iconst (v := (0 : Int32)) hx hb dX4_isDigit_16 (by decide) ?_
      rw [hQ]
      exact mretz (w := (fun _ : Unit => ([] : va_W))) (u := ()) hC hr hlocks hK hw (Or.inl rfl) ⟨rfl, h⟩ dX4_isDigit_17
    · replace h := h.2 c1
      refine lv_iconst (v := (1 : Int32)) hx hb dX4_isDigit_12 (by decide) ?_
      refine lv_goto (tgt := 17) hx hb dX4_isDigit_13 (by decide) ?_
      rw [hQ]
      exact mretz (w := (fun _ : Unit => ([] : va_W))) (u := ()) hC hr hlocks hK hw (Or.inr rfl) ⟨rfl, h⟩ dX4_isDigit_17
def wX4_takeDigits (T : Bun)  (post : Bun → Prop) : Prop :=
  ∀ T1 : Bun, T1 = up T 0 5 (0 : Int32) → wloop (σ := Bun) (fun K3 T2 => (((T2 0 1) ≤ (T2 0 4) → post T2) ∧ (¬ ((T2 0 1) ≤ (T2 0 4)) → vp_in (T2 0 4) 120 ∧ wX4_isDigit (T2 1 (T2 0 4).toNatClampNeg) (fun r9 => ((r9 = 0 → post T2) ∧ (¬ (r9 = 0) → vp_in (T2 0 4) 120 ∧ ∀ T11 : Bun, T11 = up T2 0 5 (if ((((10 : Int32) * (T2 0 5)) + (T2 1 (T2 0 4).toNatClampNeg)) - (48 : Int32)) < (1000 : Int32) then ((((10 : Int32) * (T2 0 5)) + (T2 1 (T2 0 4).toNatClampNeg)) - (48 : Int32)) else (1000 : Int32)) → ∀ T12 : Bun, T12 = up T11 0 4 ((T11 0 4) + (1 : Int32)) → K3 T12)))))) T1
set_option maxRecDepth 100000 in
set_option maxHeartbeats 4000000 in
theorem kX4_takeDigits (l : Launch) (g : Gl) (aK : Nat → Nat) (aV : Nat → Nat) (q : Nat → Nat) (sz : Nat) (T : Bun)  (post : Bun → Prop) (h : wX4_takeDigits T  post) : Met l yX4_takeDigits wsX4_takeDigits (rmm 1 20) (wPc g (E5 aK aV) ((wT g q) T) sz [.ref (q 0)]) (va_Qv (fun (u : Bun) => post u) (wB g (wT g q) (va_A ((wT g q) T) sz)) (va_A ((wT g q) T) sz)) 0 0 (va_A ((wT g q) T) sz) := by
  refine mstart (Qf := fun A => va_Qv (fun (u : Bun) => post u) (wB g (wT g q) A) A) (by decide) rfl (Nat.le_of_ble_eq_true rfl) ?_
  intro p e s m args below meth c A Q H locs ls hC hr hlocks hname hQ hA hK hE hw hl
  have hC : CallFix p m c cX4_takeDigits 1 s args wsX4_takeDigits RX4 := hC
  obtain ⟨hx, hb, -, hown, hts⟩ := id hC
  have hl : lv_has ls 1 [(0, .ref (q 0))] := hl
  rw [wX4_takeDigits] at h
  have hinX4 : ∀ w ∈ wsX40, w ∈ wsX4_takeDigits := fun w hw9 => List.mem_cons_of_mem _ (List.mem_append_right _ hw9)
  refine lv_aload_n hx hb dX4_takeDigits_0 rfl (lv_at hl 0 rfl) ?_
  refine lv_iconst (v := (0 : Int32)) hx hb dX4_takeDigits_1 (by decide) ?_
  refine T_tp5 hC hinX4 hK hw (List.mem_of_getElem? (i := 1) rfl) dX4_takeDigits_2 (fun T1 H locs eT1 hw => ?_)
  replace h := h T1 eT1
  refine h (fun T2 => ∀ (H : Heap) (locs : List Loc) (ls : Array Slot), Wd g.1 A s.heap ((wT g q) T2) H locs → lv_has ls 1 [(0, .ref (q 0))] → W p l e (rmm 1 20) s m args below meth c H locs 0 0 Q (F0 m 5 ls [])) ?_ _ _ _ hw (lv_sub hl [0] rfl)
  clear h hw hl
  rintro T2 h H locs ls hw hl
  refine lv_aload_n hx hb dX4_takeDigits_5 rfl (lv_at hl 0 rfl) ?_
  refine T_tg4 hC hinX4 hK hw (List.mem_of_getElem? (i := 2) rfl) dX4_takeDigits_6 ?_
  refine lv_aload_n hx hb dX4_takeDigits_9 rfl (lv_at hl 0 rfl) ?_
  refine T_tg1 hC hinX4 hK hw (List.mem_of_getElem? (i := 3) rfl) dX4_takeDigits_10 ?_
  refine lv_icmp_ge (tgt := 74) hx hb dX4_takeDigits_13 (by decide) (fun c15 => ?_) (fun c15 => ?_)
  · replace h := h.1 c15
    rw [hQ]
    exact mretv (w := (wT g q)) (u := T2) hC hr hlocks hK hw h dX4_takeDigits_74
  · replace h := h.2 c15
    refine lv_aload_n hx hb dX4_takeDigits_16 rfl (lv_at hl 0 rfl) ?_
    refine T_tg0 hC hinX4 hK hw (List.mem_of_getElem? (i := 4) rfl) dX4_takeDigits_17 ?_
    refine lv_aload_n hx hb dX4_takeDigits_20 rfl (lv_at hl 0 rfl) ?_
    refine T_tg4 hC hinX4 hK hw (List.mem_of_getElem? (i := 2) rfl) dX4_takeDigits_21 ?_
    obtain ⟨hi, h⟩ := h
    refine T_tl0 hC hK hw hi dX4_takeDigits_24 ?_
    refine mcalli (w1 := (fun _ => (wT g q) T2)) (wc := fun _ : Unit => ([] : va_W)) (u := ()) (va_runS (As := [.int (T2 1 (T2 0 4).toNatClampNeg)]) (rest := []) hC (kX4_isDigit l g aK aV H.size (T2 1 (T2 0 4).toNatClampNeg) _ h) (va_cwS 1 hts gX4_takeDigits_X4_isDigit rfl rfl rfl (by decide +kernel) ⟨Nat.le_of_ble_eq_true rfl, Nat.le_of_ble_eq_true rfl⟩) (mpre (E5_ok aK aV) hK hE hA hw (Sub1.nil _)) rfl rfl hl.1 rfl (lv_room (Nat.le_of_ble_eq_true rfl)) dX4_takeDigits_25 ⟨Nat.zero_le _, Nat.zero_le _⟩) hA hw (Sub1.nil _) (fun _ => Sub.nil _) (fun r9 u10 H locs h hw => ?_)
    obtain ⟨_, h⟩ := h
    refine lv_if_eq (tgt := 74) hx hb dX4_takeDigits_28 (by decide) (fun c14 => ?_) (fun c14 => ?_)
    · replace h := h.1 c14
      rw [hQ]
      exact mretv (w := (wT g q)) (u := T2) hC hr hlocks hK hw h dX4_takeDigits_74
    · replace h := h.2 c14
      refine lv_aload_n hx hb dX4_takeDigits_31 rfl (lv_at hl 0 rfl) ?_
      refine lv_sipush (v := (1000 : Int32)) hx hb dX4_takeDigits_32 (by decide) ?_
      refine lv_bipush (v := (10 : Int32)) hx hb dX4_takeDigits_35 (by decide) ?_
      refine lv_aload_n hx hb dX4_takeDigits_37 rfl (lv_at hl 0 rfl) ?_
      refine T_tg5 hC hinX4 hK hw (List.mem_of_getElem? (i := 1) rfl) dX4_takeDigits_38 ?_
      refine lv_imul hx hb dX4_takeDigits_41 ?_
      refine lv_aload_n hx hb dX4_takeDigits_42 rfl (lv_at hl 0 rfl) ?_
      refine T_tg0 hC hinX4 hK hw (List.mem_of_getElem? (i := 4) rfl) dX4_takeDigits_43 ?_
      refine lv_aload_n hx hb dX4_takeDigits_46 rfl (lv_at hl 0 rfl) ?_
      refine T_tg4 hC hinX4 hK hw (List.mem_of_getElem? (i := 2) rfl) dX4_takeDigits_47 ?_
      obtain ⟨hi, h⟩ := h
      refine T_tl0 hC hK hw hi dX4_takeDigits_50 ?_
      refine lv_iadd hx hb dX4_takeDigits_51 ?_
      refine lv_bipush (v := (48 : Int32)) hx hb dX4_takeDigits_52 (by decide) ?_
      refine lv_isub hx hb dX4_takeDigits_54 ?_
      refine va_mmin (rest := [.ref (q 0)]) hx hb (hC.2.2.1.trans hl.1.symm) hown (hts (.methodLink RX4 138 Lib.Math.min.name) (List.mem_of_getElem? (i := 5) rfl)) (hts (.static Lib.Math.min.name) (List.mem_of_getElem? (i := 6) rfl)) (hts (.initialized "java/lang/Math") (List.mem_of_getElem? (i := 7) rfl)) (hts (.code Lib.Math.min.name Lib.Math.min.code 2 (some .int)) (List.mem_of_getElem? (i := 8) rfl)) (Nat.le_of_ble_eq_true rfl) (Nat.le_of_ble_eq_true rfl) (Nat.zero_le _) (Nat.zero_le _) dX4_takeDigits_55 ?_
      refine T_tp5 hC hinX4 hK hw (List.mem_of_getElem? (i := 1) rfl) dX4_takeDigits_58 (fun T11 H locs eT11 hw => ?_)
      replace h := h T11 eT11
      refine lv_aload_n hx hb dX4_takeDigits_61 rfl (lv_at hl 0 rfl) ?_
      refine lv_dup hx hb dX4_takeDigits_62 rfl ?_
      refine T_tg4 hC hinX4 hK hw (List.mem_of_getElem? (i := 2) rfl) dX4_takeDigits_63 ?_
      refine lv_iconst (v := (1 : Int32)) hx hb dX4_takeDigits_66 (by decide) ?_
      refine lv_iadd hx hb dX4_takeDigits_67 ?_
      refine T_tp4 hC hinX4 hK hw (List.mem_of_getElem? (i := 2) rfl) dX4_takeDigits_68 (fun T12 H locs eT12 hw => ?_)
      replace h := h T12 eT12
      refine lv_goto (tgt := 5) hx hb dX4_takeDigits_71 (by decide) ?_
      exact h _ _ _ hw (lv_sub hl [0] rfl)
def wX4_takeToken (T : Bun)  (post : Bun → Prop) : Prop :=
  ∀ T1 : Bun, T1 = up T 0 3 (T 0 4) → wloop (σ := Bun) (fun K3 T2 => wjoin (σ := Unit) (fun _ => ∀ T12 : Bun, T12 = up T2 0 4 (T2 0 3) → (((T12 0 3) < (T12 0 1) → vp_in (T12 0 3) 120 ∧ wX4_isLetter (T12 1 (T12 0 3).toNatClampNeg) (fun r13 => ((r13 = 0 → vp_in (T12 0 3) 120 ∧ wX4_isDigit (T12 1 (T12 0 3).toNatClampNeg) (fun r15 => ((r15 = 0 → vp_in (T12 0 3) 120 ∧ wjoin (σ := Int32) (fun y17 => ∀ T21 : Bun, T21 = up T12 0 2 y17 → ∀ T22 : Bun, T22 = up T21 0 4 ((T21 0 4) + (1 : Int32)) → post T22) (fun J18 => (((T12 1 (T12 0 3).toNatClampNeg) = (59 : Int32) → J18 (3 : Int32)) ∧ (¬ ((T12 1 (T12 0 3).toNatClampNeg) = (59 : Int32)) → J18 (4 : Int32))))) ∧ (¬ (r15 = 0) → ∀ T24 : Bun, T24 = up T12 0 2 (2 : Int32) → wX4_takeDigits T24  (fun T27 => post T27))))) ∧ (¬ (r13 = 0) → ∀ T29 : Bun, T29 = up T12 0 2 (1 : Int32) → wloop (σ := Bun) (fun K31 T30 => (((T30 0 1) ≤ (T30 0 4) → post T30) ∧ (¬ ((T30 0 1) ≤ (T30 0 4)) → vp_in (T30 0 4) 120 ∧ wX4_isLetter (T30 1 (T30 0 4).toNatClampNeg) (fun r37 => ((r37 = 0 → post T30) ∧ (¬ (r37 = 0) → ∀ T39 : Bun, T39 = up T30 0 4 ((T30 0 4) + (1 : Int32)) → K31 T39)))))) T29)))) ∧ (¬ ((T12 0 3) < (T12 0 1)) → ∀ T44 : Bun, T44 = up T12 0 2 (0 : Int32) → post T44))) (fun J9 => (((T2 0 1) ≤ (T2 0 3) → J9 ()) ∧ (¬ ((T2 0 1) ≤ (T2 0 3)) → vp_in (T2 0 3) 120 ∧ (((T2 1 (T2 0 3).toNatClampNeg) = (32 : Int32) → ∀ T46 : Bun, T46 = up T2 0 3 ((T2 0 3) + (1 : Int32)) → K3 T46) ∧ (¬ ((T2 1 (T2 0 3).toNatClampNeg) = (32 : Int32)) → J9 ())))))) T1
set_option maxRecDepth 100000 in
set_option maxHeartbeats 4000000 in
theorem kX4_takeToken (l : Launch) (g : Gl) (aK : Nat → Nat) (aV : Nat → Nat) (q : Nat → Nat) (sz : Nat) (T : Bun)  (post : Bun → Prop) (h : wX4_takeToken T  post) : Met l yX4_takeToken wsX4_takeToken (rmm 2 40) (wPc g (E5 aK aV) ((wT g q) T) sz [.ref (q 0)]) (va_Qv (fun (u : Bun) => post u) (wB g (wT g q) (va_A ((wT g q) T) sz)) (va_A ((wT g q) T) sz)) 0 0 (va_A ((wT g q) T) sz) := by
  refine mstart (Qf := fun A => va_Qv (fun (u : Bun) => post u) (wB g (wT g q) A) A) (by decide) rfl (Nat.le_of_ble_eq_true rfl) ?_
  intro p e s m args below meth c A Q H locs ls hC hr hlocks hname hQ hA hK hE hw hl
  have hC : CallFix p m c cX4_takeToken 1 s args wsX4_takeToken RX4 := hC
  obtain ⟨hx, hb, -, hown, hts⟩ := id hC
  have hl : lv_has ls 1 [(0, .ref (q 0))] := hl
  rw [wX4_takeToken] at h
  have hinX4 : ∀ w ∈ wsX40, w ∈ wsX4_takeToken := fun w hw9 => List.mem_cons_of_mem _ (List.mem_append_right _ hw9)
  refine lv_aload_n hx hb dX4_takeToken_0 rfl (lv_at hl 0 rfl) ?_
  refine lv_aload_n hx hb dX4_takeToken_1 rfl (lv_at hl 0 rfl) ?_
  refine T_tg4 hC hinX4 hK hw (List.mem_of_getElem? (i := 1) rfl) dX4_takeToken_2 ?_
  refine T_tp3 hC hinX4 hK hw (List.mem_of_getElem? (i := 2) rfl) dX4_takeToken_5 (fun T1 H locs eT1 hw => ?_)
  replace h := h T1 eT1
  refine h (fun T2 => ∀ (H : Heap) (locs : List Loc) (ls : Array Slot), Wd g.1 A s.heap ((wT g q) T2) H locs → lv_has ls 1 [(0, .ref (q 0))] → W p l e (rmm 2 40) s m args below meth c H locs 0 0 Q (F0 m 8 ls [])) ?_ _ _ _ hw (lv_sub hl [0] rfl)
  clear h hw hl
  rintro T2 h H locs ls hw hl
  refine lv_aload_n hx hb dX4_takeToken_8 rfl (lv_at hl 0 rfl) ?_
  refine T_tg3 hC hinX4 hK hw (List.mem_of_getElem? (i := 2) rfl) dX4_takeToken_9 ?_
  refine lv_aload_n hx hb dX4_takeToken_12 rfl (lv_at hl 0 rfl) ?_
  refine T_tg1 hC hinX4 hK hw (List.mem_of_getElem? (i := 3) rfl) dX4_takeToken_13 ?_
  obtain ⟨J9, hJ10, h⟩ := h
  have join11 : ∀  (H : Heap) (locs : List Loc) (ls : Array Slot), J9 () → Wd g.1 A s.heap ((wT g q) T2) H locs → lv_has ls 1 [(0, .ref (q 0))] → W p l e (rmm 2 40) s m args below meth c H locs 0 0 Q (F0 m 46 ls []) := by
    intro  H locs ls h hw hl
    replace h := hJ10 () h
    refine lv_aload_n hx hb dX4_takeToken_46 rfl (lv_at hl 0 rfl) ?_
    refine lv_aload_n hx hb dX4_takeToken_47 rfl (lv_at hl 0 rfl) ?_
    refine T_tg3 hC hinX4 hK hw (List.mem_of_getElem? (i := 2) rfl) dX4_takeToken_48 ?_
    refine T_tp4 hC hinX4 hK hw (List.mem_of_getElem? (i := 1) rfl) dX4_takeToken_51 (fun T12 H locs eT12 hw => ?_)
    replace h := h T12 eT12
    refine lv_aload_n hx hb dX4_takeToken_54 rfl (lv_at hl 0 rfl) ?_
    refine T_tg3 hC hinX4 hK hw (List.mem_of_getElem? (i := 2) rfl) dX4_takeToken_55 ?_
    refine lv_aload_n hx hb dX4_takeToken_58 rfl (lv_at hl 0 rfl) ?_
    refine T_tg1 hC hinX4 hK hw (List.mem_of_getElem? (i := 3) rfl) dX4_takeToken_59 ?_
    refine lv_icmp_lt (tgt := 73) hx hb dX4_takeToken_62 (by decide) (fun c45 => ?_) (fun c45 => ?_)
    · replace h := h.1 c45
      refine lv_aload_n hx hb dX4_takeToken_73 rfl (lv_at hl 0 rfl) ?_
      refine T_tg0 hC hinX4 hK hw (List.mem_of_getElem? (i := 4) rfl) dX4_takeToken_74 ?_
      refine lv_aload_n hx hb dX4_takeToken_77 rfl (lv_at hl 0 rfl) ?_
      refine T_tg3 hC hinX4 hK hw (List.mem_of_getElem? (i := 2) rfl) dX4_takeToken_78 ?_
      obtain ⟨hi, h⟩ := h
      refine T_tl0 hC hK hw hi dX4_takeToken_81 ?_
      refine mcalli (w1 := (fun _ => (wT g q) T12)) (wc := fun _ : Unit => ([] : va_W)) (u := ()) (va_runS (As := [.int (T12 1 (T12 0 3).toNatClampNeg)]) (rest := []) hC (kX4_isLetter l g aK aV H.size (T12 1 (T12 0 3).toNatClampNeg) _ h) (va_cwS 1 hts gX4_takeToken_X4_isLetter rfl rfl rfl (by decide +kernel) ⟨Nat.le_of_ble_eq_true rfl, Nat.le_of_ble_eq_true rfl⟩) (mpre (E5_ok aK aV) hK hE hA hw (Sub1.nil _)) rfl rfl hl.1 rfl (lv_room (Nat.le_of_ble_eq_true rfl)) dX4_takeToken_82 ⟨Nat.zero_le _, Nat.zero_le _⟩) hA hw (Sub1.nil _) (fun _ => Sub.nil _) (fun r13 u14 H locs h hw => ?_)
      obtain ⟨_, h⟩ := h
      refine lv_if_eq (tgt := 132) hx hb dX4_takeToken_85 (by decide) (fun c43 => ?_) (fun c43 => ?_)
      · replace h := h.1 c43
        refine lv_aload_n hx hb dX4_takeToken_132 rfl (lv_at hl 0 rfl) ?_
        refine T_tg0 hC hinX4 hK hw (List.mem_of_getElem? (i := 4) rfl) dX4_takeToken_133 ?_
        refine lv_aload_n hx hb dX4_takeToken_136 rfl (lv_at hl 0 rfl) ?_
        refine T_tg3 hC hinX4 hK hw (List.mem_of_getElem? (i := 2) rfl) dX4_takeToken_137 ?_
        obtain ⟨hi, h⟩ := h
        refine T_tl0 hC hK hw hi dX4_takeToken_140 ?_
        refine mcalli (w1 := (fun _ => (wT g q) T12)) (wc := fun _ : Unit => ([] : va_W)) (u := ()) (va_runS (As := [.int (T12 1 (T12 0 3).toNatClampNeg)]) (rest := []) hC (kX4_isDigit l g aK aV H.size (T12 1 (T12 0 3).toNatClampNeg) _ h) (va_cwS 1 hts gX4_takeToken_X4_isDigit rfl rfl rfl (by decide +kernel) ⟨Nat.le_of_ble_eq_true rfl, Nat.le_of_ble_eq_true rfl⟩) (mpre (E5_ok aK aV) hK hE hA hw (Sub1.nil _)) rfl rfl hl.1 rfl (lv_room (Nat.le_of_ble_eq_true rfl)) dX4_takeToken_141 ⟨Nat.zero_le _, Nat.zero_le _⟩) hA hw (Sub1.nil _) (fun _ => Sub.nil _) (fun r15 u16 H locs h hw => ?_)
        obtain ⟨_, h⟩ := h
        refine lv_if_eq (tgt := 159) hx hb dX4_takeToken_144 (by decide) (fun c28 => ?_) (fun c28 => ?_)
        · replace h := h.1 c28
          refine lv_aload_n hx hb dX4_takeToken_159 rfl (lv_at hl 0 rfl) ?_
          refine lv_aload_n hx hb dX4_takeToken_160 rfl (lv_at hl 0 rfl) ?_
          refine T_tg0 hC hinX4 hK hw (List.mem_of_getElem? (i := 4) rfl) dX4_takeToken_161 ?_
          refine lv_aload_n hx hb dX4_takeToken_164 rfl (lv_at hl 0 rfl) ?_
          refine T_tg3 hC hinX4 hK hw (List.mem_of_getElem? (i := 2) rfl) dX4_takeToken_165 ?_
          obtain ⟨hi, h⟩ := h
          refine T_tl0 hC hK hw hi dX4_takeToken_168 ?_
          refine lv_bipush (v := (59 : Int32)) hx hb dX4_takeToken_169 (by decide) ?_
          obtain ⟨J18, hJ19, h⟩ := h
          have join20 : ∀ (y17 : Int32) (H : Heap) (locs : List Loc) (ls : Array Slot), J18 y17 → Wd g.1 A s.heap ((wT g q) T12) H locs → lv_has ls 1 [(0, .ref (q 0))] → W p l e (rmm 2 40) s m args below meth c H locs 0 0 Q (F0 m 179 ls [.int y17, .ref (q 0)]) := by
            intro y17 H locs ls h hw hl
            replace h := hJ19 y17 h
            refine T_tp2 hC hinX4 hK hw (List.mem_of_getElem? (i := 5) rfl) dX4_takeToken_179 (fun T21 H locs eT21 hw => ?_)
            replace h := h T21 eT21
            refine lv_aload_n hx hb dX4_takeToken_182 rfl (lv_at hl 0 rfl) ?_
            refine lv_dup hx hb dX4_takeToken_183 rfl ?_
            refine T_tg4 hC hinX4 hK hw (List.mem_of_getElem? (i := 1) rfl) dX4_takeToken_184 ?_
            refine lv_iconst (v := (1 : Int32)) hx hb dX4_takeToken_187 (by decide) ?_
            refine lv_iadd hx hb dX4_takeToken_188 ?_
            refine T_tp4 hC hinX4 hK hw (List.mem_of_getElem? (i := 1) rfl) dX4_takeToken_189 (fun T22 H locs eT22 hw => ?_)
            replace h := h T22 eT22
            rw [hQ]
            exact mretv (w := (wT g q)) (u := T22) hC hr hlocks hK hw h dX4_takeToken_192
          refine lv_icmp_ne (tgt := 178) hx hb dX4_takeToken_171 (by decide) (fun c23 => ?_) (fun c23 => ?_)
          · replace h := h.2 c23
            refine lv_iconst (v := (4 : Int32)) hx hb dX4_takeToken_178 (by decide) ?_
            exact join20 (4 : Int32) _ _ _ h hw (lv_sub hl [0] rfl)
          · replace h := h.1 c23
            refine lv_iconst (v := (3 : Int32)) hx hb dX4_takeToken_174 (by decide) ?_
            refine lv_goto (tgt := 179) hx hb dX4_takeToken_175 (by decide) ?_
            exact join20 (3 : Int32) _ _ _ h hw (lv_sub hl [0] rfl)
        · replace h := h.2 c28
          refine lv_aload_n hx hb dX4_takeToken_147 rfl (lv_at hl 0 rfl) ?_
          refine lv_iconst (v := (2 : Int32)) hx hb dX4_takeToken_148 (by decide) ?_
          refine T_tp2 hC hinX4 hK hw (List.mem_of_getElem? (i := 5) rfl) dX4_takeToken_149 (fun T24 H locs eT24 hw => ?_)
          replace h := h T24 eT24
          refine lv_aload_n hx hb dX4_takeToken_152 rfl (lv_at hl 0 rfl) ?_
          refine mcallv (w1 := (wT g q)) (va_runV (As := []) (rest := []) hC (kX4_takeDigits l g aK aV q H.size T24  _ h) (cwV 0 hts gX4_takeToken_X4_takeDigits rfl rfl rfl (by decide +kernel) ⟨Nat.le_of_ble_eq_true rfl, Nat.le_of_ble_eq_true rfl⟩) (mpreV (E5_ok aK aV) hK hE hA hw (Sub1.refl _) 0 rfl rfl) rfl rfl hl.1 rfl (lv_room (Nat.le_of_ble_eq_true rfl)) dX4_takeToken_153 ⟨Nat.zero_le _, Nat.zero_le _⟩) hA hw (Sub1.refl _) (fun _ => Sub.whole rfl) (fun u26 H locs h hw => ?_)
          obtain ⟨T27, rfl⟩ : ∃ z, z = u26 := ⟨_, rfl⟩
          refine lv_goto (tgt := 192) hx hb dX4_takeToken_156 (by decide) ?_
          rw [hQ]
          exact mretv (w := (wT g q)) (u := T27) hC hr hlocks hK hw h dX4_takeToken_192
      · replace h := h.2 c43
        refine lv_aload_n hx hb dX4_takeToken_88 rfl (lv_at hl 0 rfl) ?_
        refine lv_iconst (v := (1 : Int32)) hx hb dX4_takeToken_89 (by decide) ?_
        refine T_tp2 hC hinX4 hK hw (List.mem_of_getElem? (i := 5) rfl) dX4_takeToken_90 (fun T29 H locs eT29 hw => ?_)
        replace h := h T29 eT29
        refine h (fun T30 => ∀ (H : Heap) (locs : List Loc) (ls : Array Slot), Wd g.1 A s.heap ((wT g q) T30) H locs → lv_has ls 1 [(0, .ref (q 0))] → W p l e (rmm 2 40) s m args below meth c H locs 0 0 Q (F0 m 93 ls [])) ?_ _ _ _ hw (lv_sub hl [0] rfl)
        clear h hw hl
        rintro T30 h H locs ls hw hl
        refine lv_aload_n hx hb dX4_takeToken_93 rfl (lv_at hl 0 rfl) ?_
        refine T_tg4 hC hinX4 hK hw (List.mem_of_getElem? (i := 1) rfl) dX4_takeToken_94 ?_
        refine lv_aload_n hx hb dX4_takeToken_97 rfl (lv_at hl 0 rfl) ?_
        refine T_tg1 hC hinX4 hK hw (List.mem_of_getElem? (i := 3) rfl) dX4_takeToken_98 ?_
        refine lv_icmp_ge (tgt := 192) hx hb dX4_takeToken_101 (by decide) (fun c42 => ?_) (fun c42 => ?_)
        · replace h := h.1 c42
          rw [hQ]
          exact mretv (w := (wT g q)) (u := T30) hC hr hlocks hK hw h dX4_takeToken_192
        · replace h := h.2 c42
          refine lv_aload_n hx hb dX4_takeToken_104 rfl (lv_at hl 0 rfl) ?_
          refine T_tg0 hC hinX4 hK hw (List.mem_of_getElem? (i := 4) rfl) dX4_takeToken_105 ?_
          refine lv_aload_n hx hb dX4_takeToken_108 rfl (lv_at hl 0 rfl) ?_
          refine T_tg4 hC hinX4 hK hw (List.mem_of_getElem? (i := 1) rfl) dX4_takeToken_109 ?_
          obtain ⟨hi, h⟩ := h
          refine T_tl0 hC hK hw hi dX4_takeToken_112 ?_
          refine mcalli (w1 := (fun _ => (wT g q) T30)) (wc := fun _ : Unit => ([] : va_W)) (u := ()) (va_runS (As := [.int (T30 1 (T30 0 4).toNatClampNeg)]) (rest := []) hC (kX4_isLetter l g aK aV H.size (T30 1 (T30 0 4).toNatClampNeg) _ h) (va_cwS 1 hts gX4_takeToken_X4_isLetter rfl rfl rfl (by decide +kernel) ⟨Nat.le_of_ble_eq_true rfl, Nat.le_of_ble_eq_true rfl⟩) (mpre (E5_ok aK aV) hK hE hA hw (Sub1.nil _)) rfl rfl hl.1 rfl (lv_room (Nat.le_of_ble_eq_true rfl)) dX4_takeToken_113 ⟨Nat.zero_le _, Nat.zero_le _⟩) hA hw (Sub1.nil _) (fun _ => Sub.nil _) (fun r37 u38 H locs h hw => ?_)
          obtain ⟨_, h⟩ := h
          refine lv_if_eq (tgt := 192) hx hb dX4_takeToken_116 (by decide) (fun c41 => ?_) (fun c41 => ?_)
          · replace h := h.1 c41
            rw [hQ]
            exact mretv (w := (wT g q)) (u := T30) hC hr hlocks hK hw h dX4_takeToken_192
          · replace h := h.2 c41
            refine lv_aload_n hx hb dX4_takeToken_119 rfl (lv_at hl 0 rfl) ?_
            refine lv_dup hx hb dX4_takeToken_120 rfl ?_
            refine T_tg4 hC hinX4 hK hw (List.mem_of_getElem? (i := 1) rfl) dX4_takeToken_121 ?_
            refine lv_iconst (v := (1 : Int32)) hx hb dX4_takeToken_124 (by decide) ?_
            refine lv_iadd hx hb dX4_takeToken_125 ?_
            refine T_tp4 hC hinX4 hK hw (List.mem_of_getElem? (i := 1) rfl) dX4_takeToken_126 (fun T39 H locs eT39 hw => ?_)
            replace h := h T39 eT39
            refine lv_goto (tgt := 93) hx hb dX4_takeToken_129 (by decide) ?_
            exact h _ _ _ hw (lv_sub hl [0] rfl)
    · replace h := h.2 c45
      refine lv_aload_n hx hb dX4_takeToken_65 rfl (lv_at hl 0 rfl) ?_
      refine lv_iconst (v := (0 : Int32)) hx hb dX4_takeToken_66 (by decide) ?_
      refine T_tp2 hC hinX4 hK hw (List.mem_of_getElem? (i := 5) rfl) dX4_takeToken_67 (fun T44 H locs eT44 hw => ?_)
      replace h := h T44 eT44
      refine lv_goto (tgt := 192) hx hb dX4_takeToken_70 (by decide) ?_
      rw [hQ]
      exact mretv (w := (wT g q)) (u := T44) hC hr hlocks hK hw h dX4_takeToken_192
  refine lv_icmp_ge (tgt := 46) hx hb dX4_takeToken_16 (by decide) (fun c49 => ?_) (fun c49 => ?_)
  · replace h := h.1 c49
    exact join11  _ _ _ h hw (lv_sub hl [0] rfl)
  · replace h := h.2 c49
    refine lv_aload_n hx hb dX4_takeToken_19 rfl (lv_at hl 0 rfl) ?_
    refine T_tg0 hC hinX4 hK hw (List.mem_of_getElem? (i := 4) rfl) dX4_takeToken_20 ?_
    refine lv_aload_n hx hb dX4_takeToken_23 rfl (lv_at hl 0 rfl) ?_
    refine T_tg3 hC hinX4 hK hw (List.mem_of_getElem? (i := 2) rfl) dX4_takeToken_24 ?_
    obtain ⟨hi, h⟩ := h
    refine T_tl0 hC hK hw hi dX4_takeToken_27 ?_
    refine lv_bipush (v := (32 : Int32)) hx hb dX4_takeToken_28 (by decide) ?_
    refine lv_icmp_ne (tgt := 46) hx hb dX4_takeToken_30 (by decide) (fun c48 => ?_) (fun c48 => ?_)
    · replace h := h.2 c48
      exact join11  _ _ _ h hw (lv_sub hl [0] rfl)
    · replace h := h.1 c48
      refine lv_aload_n hx hb dX4_takeToken_33 rfl (lv_at hl 0 rfl) ?_
      refine lv_dup hx hb dX4_takeToken_34 rfl ?_
      refine T_tg3 hC hinX4 hK hw (List.mem_of_getElem? (i := 2) rfl) dX4_takeToken_35 ?_
      refine lv_iconst (v := (1 : Int32)) hx hb dX4_takeToken_38 (by decide) ?_
      refine lv_iadd hx hb dX4_takeToken_39 ?_
      refine T_tp3 hC hinX4 hK hw (List.mem_of_getElem? (i := 2) rfl) dX4_takeToken_40 (fun T46 H locs eT46 hw => ?_)
      replace h := h T46 eT46
      refine lv_goto (tgt := 8) hx hb dX4_takeToken_43 (by decide) ?_
      exact h _ _ _ hw (lv_sub hl [0] rfl)
def wX4_isWord (T : Bun) (a1 : Nat) (post : Int32 → Prop) : Prop :=
  a1 < 14 ∧ (((T 0 2) = (1 : Int32) → wJ0_length_8abf5 a1  (fun r1 => ((((T 0 4) - (T 0 3)) = r1 → wloop (σ := Int32) (fun K4 x3 => wJ0_length_8abf5 a1  (fun r10 => ((r10 ≤ x3 → post (1 : Int32)) ∧ (¬ (r10 ≤ x3) → vp_in ((T 0 3) + x3) 120 ∧ wJ0_charAt_5068e a1 x3 (fun r12 => (((T 1 ((T 0 3) + x3).toNatClampNeg) = r12 → ∀ x14 : Int32, x14 = x3 + (1 : Int32) → K4 x14) ∧ (¬ ((T 1 ((T 0 3) + x3).toNatClampNeg) = r12) → post (0 : Int32)))))))) (0 : Int32)) ∧ (¬ (((T 0 4) - (T 0 3)) = r1) → post (0 : Int32))))) ∧ (¬ ((T 0 2) = (1 : Int32)) → post (0 : Int32)))
set_option maxRecDepth 100000 in
set_option maxHeartbeats 4000000 in
theorem kX4_isWord (l : Launch) (g : Gl) (aK : Nat → Nat) (aV : Nat → Nat) (q : Nat → Nat) (sz : Nat) (T : Bun) (a1 : Nat) (post : Int32 → Prop) (h : wX4_isWord T a1 post) : Met l yX4_isWord wsX4_isWord (rmm 4 85) (wPc g (E5 aK aV) ((wT g q) T) sz [.ref (q 0), .ref (aK a1)]) (va_Qi (fun (r : Int32) (u : Bun) => u = T ∧ post r) (wB g (wT g q) (va_A ((wT g q) T) sz)) (va_A ((wT g q) T) sz)) 0 0 (va_A ((wT g q) T) sz) := by
  refine mstart (Qf := fun A => va_Qi (fun (r : Int32) (u : Bun) => u = T ∧ post r) (wB g (wT g q) A) A) (by decide) rfl (Nat.le_of_ble_eq_true rfl) ?_
  intro p e s m args below meth c A Q H locs ls hC hr hlocks hname hQ hA hK hE hw hl
  have hC : CallFix p m c cX4_isWord 3 s args wsX4_isWord RX4 := hC
  obtain ⟨hx, hb, -, hown, hts⟩ := id hC
  have hl : lv_has ls 3 [(0, .ref (q 0)), (1, .ref (aK a1))] := hl
  rw [wX4_isWord] at h
  have hinX4 : ∀ w ∈ wsX40, w ∈ wsX4_isWord := fun w hw9 => List.mem_cons_of_mem _ (List.mem_append_right _ hw9)
  obtain ⟨hstr, h⟩ := h
  refine lv_aload_n hx hb dX4_isWord_0 rfl (lv_at hl 0 rfl) ?_
  refine T_tg2 hC hinX4 hK hw (List.mem_of_getElem? (i := 1) rfl) dX4_isWord_1 ?_
  refine lv_iconst (v := (1 : Int32)) hx hb dX4_isWord_4 (by decide) ?_
  refine lv_icmp_ne (tgt := 24) hx hb dX4_isWord_5 (by decide) (fun c19 => ?_) (fun c19 => ?_)
  · replace h := h.2 c19
    refine lv_iconst (v := (0 : Int32)) hx hb dX4_isWord_24 (by decide) ?_
    rw [hQ]
    exact mretz (w := (wT g q)) (u := T) hC hr hlocks hK hw (Or.inl rfl) ⟨rfl, h⟩ dX4_isWord_25
  · replace h := h.1 c19
    refine lv_aload_n hx hb dX4_isWord_8 rfl (lv_at hl 0 rfl) ?_
    refine T_tg4 hC hinX4 hK hw (List.mem_of_getElem? (i := 2) rfl) dX4_isWord_9 ?_
    refine lv_aload_n hx hb dX4_isWord_12 rfl (lv_at hl 0 rfl) ?_
    refine T_tg3 hC hinX4 hK hw (List.mem_of_getElem? (i := 3) rfl) dX4_isWord_13 ?_
    refine lv_isub hx hb dX4_isWord_16 ?_
    refine lv_aload_n hx hb dX4_isWord_17 rfl (lv_at hl 1 rfl) ?_
    refine mcalli (w1 := (fun _ => (wT g q) T)) (wc := fun _ : Unit => ([] : va_W)) (u := ()) (va_runV (As := []) (rest := [.int ((T 0 4) - (T 0 3))]) hC (kJ0_length_8abf5 l g aK aV H.size a1  _ h) (cwV 0 hts gX4_isWord_J0_length_8abf5 rfl rfl rfl (by decide +kernel) ⟨Nat.le_of_ble_eq_true rfl, Nat.le_of_ble_eq_true rfl⟩) (mpreStr (E5_ok aK aV) hK hE hA hw hstr) rfl rfl hl.1 rfl (lv_room (Nat.le_of_ble_eq_true rfl)) dX4_isWord_18 ⟨Nat.zero_le _, Nat.zero_le _⟩) hA hw (Sub1.nil _) (fun _ => Sub.nil _) (fun r1 u2 H locs h hw => ?_)
    obtain ⟨_, h⟩ := h
    refine lv_icmp_eq (tgt := 26) hx hb dX4_isWord_21 (by decide) (fun c18 => ?_) (fun c18 => ?_)
    · replace h := h.1 c18
      refine lv_iconst (v := (0 : Int32)) hx hb dX4_isWord_26 (by decide) ?_
      refine lv_istore_n (lv' := [(2, .int (0 : Int32)), (0, .ref (q 0)), (1, .ref (aK a1))]) hx hb dX4_isWord_27 rfl hl (by decide) rfl (fun ls hl => ?_)
      refine h (fun x3 => ∀ (H : Heap) (locs : List Loc) (ls : Array Slot), Wd g.1 A s.heap ((wT g q) T) H locs → lv_has ls 3 [(0, .ref (q 0)), (1, .ref (aK a1)), (2, .int x3)] → W p l e (rmm 4 85) s m args below meth c H locs 0 0 Q (F0 m 28 ls [])) ?_ _ _ _ hw (lv_sub hl [1, 2, 0] rfl)
      clear h hw hl
      rintro x3 h H locs ls hw hl
      refine lv_iload_n hx hb dX4_isWord_28 rfl (lv_at hl 2 rfl) ?_
      refine lv_aload_n hx hb dX4_isWord_29 rfl (lv_at hl 1 rfl) ?_
      refine mcalli (w1 := (fun _ => (wT g q) T)) (wc := fun _ : Unit => ([] : va_W)) (u := ()) (va_runV (As := []) (rest := [.int x3]) hC (kJ0_length_8abf5 l g aK aV H.size a1  _ h) (cwV 0 hts gX4_isWord_J0_length_8abf5 rfl rfl rfl (by decide +kernel) ⟨Nat.le_of_ble_eq_true rfl, Nat.le_of_ble_eq_true rfl⟩) (mpreStr (E5_ok aK aV) hK hE hA hw hstr) rfl rfl hl.1 rfl (lv_room (Nat.le_of_ble_eq_true rfl)) dX4_isWord_30 ⟨Nat.zero_le _, Nat.zero_le _⟩) hA hw (Sub1.nil _) (fun _ => Sub.nil _) (fun r10 u11 H locs h hw => ?_)
      obtain ⟨_, h⟩ := h
      refine lv_icmp_ge (tgt := 63) hx hb dX4_isWord_33 (by decide) (fun c17 => ?_) (fun c17 => ?_)
      · replace h := h.1 c17
        refine lv_iconst (v := (1 : Int32)) hx hb dX4_isWord_63 (by decide) ?_
        rw [hQ]
        exact mretz (w := (wT g q)) (u := T) hC hr hlocks hK hw (Or.inr rfl) ⟨rfl, h⟩ dX4_isWord_64
      · replace h := h.2 c17
        refine lv_aload_n hx hb dX4_isWord_36 rfl (lv_at hl 0 rfl) ?_
        refine T_tg0 hC hinX4 hK hw (List.mem_of_getElem? (i := 4) rfl) dX4_isWord_37 ?_
        refine lv_aload_n hx hb dX4_isWord_40 rfl (lv_at hl 0 rfl) ?_
        refine T_tg3 hC hinX4 hK hw (List.mem_of_getElem? (i := 3) rfl) dX4_isWord_41 ?_
        refine lv_iload_n hx hb dX4_isWord_44 rfl (lv_at hl 2 rfl) ?_
        refine lv_iadd hx hb dX4_isWord_45 ?_
        obtain ⟨hi, h⟩ := h
        refine T_tl0 hC hK hw hi dX4_isWord_46 ?_
        refine lv_aload_n hx hb dX4_isWord_47 rfl (lv_at hl 1 rfl) ?_
        refine lv_iload_n hx hb dX4_isWord_48 rfl (lv_at hl 2 rfl) ?_
        refine mcalli (w1 := (fun _ => (wT g q) T)) (wc := fun _ : Unit => ([] : va_W)) (u := ()) (va_runV (As := [.int x3]) (rest := [.int (T 1 ((T 0 3) + x3).toNatClampNeg)]) hC (kJ0_charAt_5068e l g aK aV H.size a1 x3 _ h) (cwV 1 hts gX4_isWord_J0_charAt_5068e rfl rfl rfl (by decide +kernel) ⟨Nat.le_of_ble_eq_true rfl, Nat.le_of_ble_eq_true rfl⟩) (mpreStr (E5_ok aK aV) hK hE hA hw hstr) rfl rfl hl.1 rfl (lv_room (Nat.le_of_ble_eq_true rfl)) dX4_isWord_49 ⟨Nat.zero_le _, Nat.zero_le _⟩) hA hw (Sub1.nil _) (fun _ => Sub.nil _) (fun r12 u13 H locs h hw => ?_)
        obtain ⟨_, h⟩ := h
        refine lv_icmp_eq (tgt := 57) hx hb dX4_isWord_52 (by decide) (fun c16 => ?_) (fun c16 => ?_)
        · replace h := h.1 c16
          obtain ⟨x14, ex14⟩ : ∃ y : Int32, y = x3 + (1 : Int32) := ⟨_, rfl⟩
          refine lv_iinc (v := x14) (lv' := [(2, .int x14), (0, .ref (q 0)), (1, .ref (aK a1))]) hx hb dX4_isWord_57 hl (k := 2) rfl (by rw [ex14]; rfl) (by decide) rfl (fun ls hl => ?_)
          replace h := h x14 ex14
          refine lv_goto (tgt := 28) hx hb dX4_isWord_60 (by decide) ?_
          exact h _ _ _ hw (lv_sub hl [1, 2, 0] rfl)
        · replace h := h.2 c16
          refine lv_iconst (v := (0 : Int32)) hx hb dX4_isWord_55 (by decide) ?_
          rw [hQ]
          exact mretz (w := (wT g q)) (u := T) hC hr hlocks hK hw (Or.inl rfl) ⟨rfl, h⟩ dX4_isWord_56
    · replace h := h.2 c18
      refine lv_iconst (v := (0 : Int32)) hx hb dX4_isWord_24 (by decide) ?_
      rw [hQ]
      exact mretz (w := (wT g q)) (u := T) hC hr hlocks hK hw (Or.inl rfl) ⟨rfl, h⟩ dX4_isWord_25
def wX4_isNumber (T : Bun) (a1 : Int32) (a2 : Int32) (post : Int32 → Prop) : Prop :=
  (((T 0 2) = (2 : Int32) → (((T 0 5) < a1 → post (0 : Int32)) ∧ (¬ ((T 0 5) < a1) → ((a2 < (T 0 5) → post (0 : Int32)) ∧ (¬ (a2 < (T 0 5)) → post (1 : Int32)))))) ∧ (¬ ((T 0 2) = (2 : Int32)) → post (0 : Int32)))
set_option maxRecDepth 100000 in
set_option maxHeartbeats 4000000 in
theorem kX4_isNumber (l : Launch) (g : Gl) (aK : Nat → Nat) (aV : Nat → Nat) (q : Nat → Nat) (sz : Nat) (T : Bun) (a1 : Int32) (a2 : Int32) (post : Int32 → Prop) (h : wX4_isNumber T a1 a2 post) : Met l yX4_isNumber wsX4_isNumber (rmm 0 0) (wPc g (E5 aK aV) ((wT g q) T) sz [.ref (q 0), .int a1, .int a2]) (va_Qi (fun (r : Int32) (u : Bun) => u = T ∧ post r) (wB g (wT g q) (va_A ((wT g q) T) sz)) (va_A ((wT g q) T) sz)) 0 0 (va_A ((wT g q) T) sz) := by
  refine mstart (Qf := fun A => va_Qi (fun (r : Int32) (u : Bun) => u = T ∧ post r) (wB g (wT g q) A) A) (by decide) rfl (Nat.le_of_ble_eq_true rfl) ?_
  intro p e s m args below meth c A Q H locs ls hC hr hlocks hname hQ hA hK hE hw hl
  have hC : CallFix p m c cX4_isNumber 3 s args wsX4_isNumber RX4 := hC
  obtain ⟨hx, hb, -, hown, hts⟩ := id hC
  have hl : lv_has ls 3 [(0, .ref (q 0)), (1, .int a1), (2, .int a2)] := hl
  rw [wX4_isNumber] at h
  have hinX4 : ∀ w ∈ wsX40, w ∈ wsX4_isNumber := fun w hw9 => List.mem_cons_of_mem _ (List.mem_append_right _ hw9)
  refine lv_aload_n hx hb dX4_isNumber_0 rfl (lv_at hl 0 rfl) ?_
  refine T_tg2 hC hinX4 hK hw (List.mem_of_getElem? (i := 1) rfl) dX4_isNumber_1 ?_
  refine lv_iconst (v := (2 : Int32)) hx hb dX4_isNumber_4 (by decide) ?_
  refine lv_icmp_ne (tgt := 28) hx hb dX4_isNumber_5 (by decide) (fun c3 => ?_) (fun c3 => ?_)
  · replace h := h.2 c3
    refine lv_iconst (v := (0 : Int32)) hx hb dX4_isNumber_28 (by decide) ?_
    rw [hQ]
    exact mretz (w := (wT g q)) (u := T) hC hr hlocks hK hw (Or.inl rfl) ⟨rfl, h⟩ dX4_isNumber_29
  · replace h := h.1 c3
    refine lv_aload_n hx hb dX4_isNumber_8 rfl (lv_at hl 0 rfl) ?_
    refine T_tg5 hC hinX4 hK hw (List.mem_of_getElem? (i := 2) rfl) dX4_isNumber_9 ?_
    refine lv_iload_n hx hb dX4_isNumber_12 rfl (lv_at hl 1 rfl) ?_
    refine lv_icmp_lt (tgt := 28) hx hb dX4_isNumber_13 (by decide) (fun c2 => ?_) (fun c2 => ?_)
    · replace h := h.1 c2
      refine lv_iconst (v := (0 : Int32)) hx hb dX4_isNumber_28 (by decide) ?_
      rw [hQ]
      exact mretz (w := (wT g q)) (u := T) hC hr hlocks hK hw (Or.inl rfl) ⟨rfl, h⟩ dX4_isNumber_29
    · replace h := h.2 c2
      refine lv_aload_n hx hb dX4_isNumber_16 rfl (lv_at hl 0 rfl) ?_
      refine T_tg5 hC hinX4 hK hw (List.mem_of_getElem? (i := 2) rfl) dX4_isNumber_17 ?_
      refine lv_iload_n hx hb dX4_isNumber_20 rfl (lv_at hl 2 rfl) ?_
      refine lv_icmp_gt (tgt := 28) hx hb dX4_isNumber_21 (by decide) (fun c1 => ?_) (fun c1 => ?_)
      · replace h := h.1 c1
        refine lv_iconst (v := (0 : Int32)) hx hb dX4_isNumber_28 (by decide) ?_
        rw [hQ]
        exact mretz (w := (wT g q)) (u := T) hC hr hlocks hK hw (Or.inl rfl) ⟨rfl, h⟩ dX4_isNumber_29
      · replace h := h.2 c1
        refine lv_iconst (v := (1 : Int32)) hx hb dX4_isNumber_24 (by decide) ?_
        refine lv_goto (tgt := 29) hx hb dX4_isNumber_25 (by decide) ?_
        rw [hQ]
        exact mretz (w := (wT g q)) (u := T) hC hr hlocks hK hw (Or.inr rfl) ⟨rfl, h⟩ dX4_isNumber_29
def wX4_takeCells (T : Bun) (S : Bun) (a2 : Int32) (a3 : Nat) (a4 : Int32) (post : Int32 → Bun → Bun → Prop) : Prop :=
  a3 < 14 ∧ wX4_isWord T a3 (fun r1 => ((r1 = 0 → post (1 : Int32) T S) ∧ (¬ (r1 = 0) → wX4_takeToken T  (fun T5 => wloop (σ := Int32 × Int32 × Int32 × Bun) (fun K10 z => match z with | (x6, x7, x8, T9) => wjoin (σ := Unit) (fun _ => wX1_putMark S a2 a4 x6 (fun S21 => post (1 : Int32) T9 S21)) (fun J16 => (((16 : Int32) < x8 → J16 ()) ∧ (¬ ((16 : Int32) < x8) → wjoin (σ := Unit) (fun _ => wX4_isNumber T9 x7 (15 : Int32) (fun r25 => ((r25 = 0 → post (0 : Int32) T9 S) ∧ (¬ (r25 = 0) → ∀ x27 : Int32, x27 = x6 ||| ((1 : Int32) <<< ((T9 0 5) &&& 31)) → ∀ x28 : Int32, x28 = (T9 0 5) + (1 : Int32) → wX4_takeToken T9  (fun T31 => ∀ x32 : Int32, x32 = x8 + (1 : Int32) → K10 (x27, x28, x32, T31)))))) (fun J22 => ((x8 ≤ 0 → J22 ()) ∧ (¬ (x8 ≤ 0) → (((T9 0 2) = (2 : Int32) → J22 ()) ∧ (¬ ((T9 0 2) = (2 : Int32)) → J16 ()))))))))) ((0 : Int32), (0 : Int32), (0 : Int32), T5)))))
set_option maxRecDepth 100000 in
set_option maxHeartbeats 4000000 in
theorem kX4_takeCells (l : Launch) (g : Gl) (aK : Nat → Nat) (aV : Nat → Nat) (q : Nat → Nat) (q2 : Nat → Nat) (sz : Nat) (T : Bun) (S : Bun) (a2 : Int32) (a3 : Nat) (a4 : Int32) (post : Int32 → Bun → Bun → Prop) (h : wX4_takeCells T S a2 a3 a4 post) : Met l yX4_takeCells wsX4_takeCells (rmm 5 107) (wPc g (E5 aK aV) ((wTP g q q2) (T, S)) sz [.ref (q 0), .ref (q2 0), .int a2, .ref (aK a3), .int a4]) (va_Qi (fun (r : Int32) (u : Bun × Bun) => post r u.1 u.2) (wB g (wTP g q q2) (va_A ((wTP g q q2) (T, S)) sz)) (va_A ((wTP g q q2) (T, S)) sz)) 0 0 (va_A ((wTP g q q2) (T, S)) sz) := by
  refine mstart (Qf := fun A => va_Qi (fun (r : Int32) (u : Bun × Bun) => post r u.1 u.2) (wB g (wTP g q q2) A) A) (by decide) rfl (Nat.le_of_ble_eq_true rfl) ?_
  intro p e s m args below meth c A Q H locs ls hC hr hlocks hname hQ hA hK hE hw hl
  have hC : CallFix p m c cX4_takeCells 8 s args wsX4_takeCells RX4 := hC
  obtain ⟨hx, hb, -, hown, hts⟩ := id hC
  have hl : lv_has ls 8 [(0, .ref (q 0)), (1, .ref (q2 0)), (2, .int a2), (3, .ref (aK a3)), (4, .int a4)] := hl
  rw [wX4_takeCells] at h
  have hinX4 : ∀ w ∈ wsX40, w ∈ wsX4_takeCells := fun w hw9 => List.mem_cons_of_mem _ (List.mem_append_left _ (List.mem_append_right _ hw9))
  obtain ⟨hstr, h⟩ := h
  refine lv_aload_n hx hb dX4_takeCells_0 rfl (lv_at hl 0 rfl) ?_
  refine lv_aload_n hx hb dX4_takeCells_1 rfl (lv_at hl 3 rfl) ?_
  refine mcalli (w1 := (fun u9 => (wTP g q q2) (u9, S))) (va_runV (As := [.ref (aK a3)]) (rest := []) hC (kX4_isWord l g aK aV q H.size T a3 _ h) (cwV 1 hts gX4_takeCells_X4_isWord rfl rfl rfl (by decide +kernel) ⟨Nat.le_of_ble_eq_true rfl, Nat.le_of_ble_eq_true rfl⟩) (mpreV (E5_ok aK aV) hK hE hA hw (TP_wt_1 g) 0 rfl rfl) rfl rfl hl.1 rfl (lv_room (Nat.le_of_ble_eq_true rfl)) dX4_takeCells_2 ⟨Nat.zero_le _, Nat.zero_le _⟩) hA hw (TP_wt_1 g) (fun u9 => TP_wt g u9) (fun r1 u2 H locs h hw => ?_)
  obtain ⟨hu, h⟩ := h
  replace hu := hu.symm
  subst hu
  refine lv_if_ne (tgt := 10) hx hb dX4_takeCells_5 (by decide) (fun c38 => ?_) (fun c38 => ?_)
  · replace h := h.2 c38
    refine lv_aload_n hx hb dX4_takeCells_10 rfl (lv_at hl 0 rfl) ?_
    refine mcallv (w1 := (fun u9 => (wTP g q q2) (u9, S))) (va_runV (As := []) (rest := []) hC (kX4_takeToken l g aK aV q H.size T  _ h) (cwV 0 hts gX4_takeCells_X4_takeToken rfl rfl rfl (by decide +kernel) ⟨Nat.le_of_ble_eq_true rfl, Nat.le_of_ble_eq_true rfl⟩) (mpreV (E5_ok aK aV) hK hE hA hw (TP_wt_1 g) 0 rfl rfl) rfl rfl hl.1 rfl (lv_room (Nat.le_of_ble_eq_true rfl)) dX4_takeCells_11 ⟨Nat.zero_le _, Nat.zero_le _⟩) hA hw (TP_wt_1 g) (fun u9 => TP_wt g u9) (fun u4 H locs h hw => ?_)
    obtain ⟨T5, rfl⟩ : ∃ z, z = u4 := ⟨_, rfl⟩
    refine lv_iconst (v := (0 : Int32)) hx hb dX4_takeCells_14 (by decide) ?_
    refine lv_istore (lv' := [(5, .int (0 : Int32)), (0, .ref (q 0)), (1, .ref (q2 0)), (2, .int a2), (3, .ref (aK a3)), (4, .int a4)]) hx hb dX4_takeCells_15 hl (by decide) rfl (fun ls hl => ?_)
    refine lv_iconst (v := (0 : Int32)) hx hb dX4_takeCells_17 (by decide) ?_
    refine lv_istore (lv' := [(6, .int (0 : Int32)), (5, .int (0 : Int32)), (0, .ref (q 0)), (1, .ref (q2 0)), (2, .int a2), (3, .ref (aK a3)), (4, .int a4)]) hx hb dX4_takeCells_18 hl (by decide) rfl (fun ls hl => ?_)
    refine lv_iconst (v := (0 : Int32)) hx hb dX4_takeCells_20 (by decide) ?_
    refine lv_istore (lv' := [(7, .int (0 : Int32)), (6, .int (0 : Int32)), (5, .int (0 : Int32)), (0, .ref (q 0)), (1, .ref (q2 0)), (2, .int a2), (3, .ref (aK a3)), (4, .int a4)]) hx hb dX4_takeCells_21 hl (by decide) rfl (fun ls hl => ?_)
    refine h (fun z => match z with | (x6, x7, x8, T9) => ∀ (H : Heap) (locs : List Loc) (ls : Array Slot), Wd g.1 A s.heap ((wTP g q q2) (T9, S)) H locs → lv_has ls 8 [(0, .ref (q 0)), (1, .ref (q2 0)), (2, .int a2), (4, .int a4), (5, .int x6), (6, .int x7), (7, .int x8)] → W p l e (rmm 5 107) s m args below meth c H locs 0 0 Q (F0 m 23 ls [])) ?_ _ _ _ hw (lv_sub hl [3, 4, 5, 7, 2, 1, 0] rfl)
    clear h hw hl
    rintro ⟨x6, x7, x8, T9⟩ h H locs ls hw hl
    refine lv_iload hx hb dX4_takeCells_23 (lv_at hl 6 rfl) ?_
    refine lv_bipush (v := (16 : Int32)) hx hb dX4_takeCells_25 (by decide) ?_
    obtain ⟨J16, hJ17, h⟩ := h
    have join18 : ∀  (H : Heap) (locs : List Loc) (ls : Array Slot), J16 () → Wd g.1 A s.heap ((wTP g q q2) (T9, S)) H locs → lv_has ls 8 [(1, .ref (q2 0)), (2, .int a2), (4, .int a4), (5, .int x6)] → W p l e (rmm 5 107) s m args below meth c H locs 0 0 Q (F0 m 88 ls []) := by
      intro  H locs ls h hw hl
      replace h := hJ17 () h
      refine lv_aload_n hx hb dX4_takeCells_88 rfl (lv_at hl 0 rfl) ?_
      refine lv_iload_n hx hb dX4_takeCells_89 rfl (lv_at hl 1 rfl) ?_
      refine lv_iload hx hb dX4_takeCells_90 (lv_at hl 2 rfl) ?_
      refine lv_iload hx hb dX4_takeCells_92 (lv_at hl 3 rfl) ?_
      refine mcallv (w1 := (fun u9 => (wTP g q q2) (T9, u9))) (va_runVN (C := RX1) (As := [.int a2, .int a4, .int x6]) (rest := []) hC (kX1_putMark l g aK aV q2 H.size S a2 a4 x6 _ h) ⟨va_cnB 3 hts gX4_takeCells_X1_putMark_n89 rfl rfl rfl hE.nMX4_89 (hts (.initialized RX1) (List.mem_of_getElem? (i := 84) rfl)) (by decide +kernel) ⟨Nat.le_of_ble_eq_true rfl, Nat.le_of_ble_eq_true rfl⟩, (hts (.instanceMethod yX1_putMark) (List.mem_of_getElem? (i := 83) rfl)), (hts (.selects RX1 yX1_putMark yX1_putMark) (List.mem_of_getElem? (i := 85) rfl))⟩ (mpreV (E5_ok aK aV) hK hE hA hw (TP_wp_1 g) 0 rfl rfl) rfl rfl hl.1 rfl (lv_room (Nat.le_of_ble_eq_true rfl)) dX4_takeCells_94 ⟨Nat.zero_le _, Nat.zero_le _⟩) hA hw (TP_wp_1 g) (fun u9 => TP_wp g u9) (fun u20 H locs h hw => ?_)
      obtain ⟨S21, rfl⟩ : ∃ z, z = u20 := ⟨_, rfl⟩
      refine lv_iconst (v := (1 : Int32)) hx hb dX4_takeCells_97 (by decide) ?_
      rw [hQ]
      exact mretz (w := (wTP g q q2)) (u := (T9, S21)) hC hr hlocks hK hw (Or.inr rfl) h dX4_takeCells_98
    refine lv_icmp_gt (tgt := 88) hx hb dX4_takeCells_27 (by decide) (fun c37 => ?_) (fun c37 => ?_)
    · replace h := h.1 c37
      exact join18  _ _ _ h hw (lv_sub hl [1, 2, 3, 4] rfl)
    · replace h := h.2 c37
      refine lv_iload hx hb dX4_takeCells_30 (lv_at hl 6 rfl) ?_
      obtain ⟨J22, hJ23, h⟩ := h
      have join24 : ∀  (H : Heap) (locs : List Loc) (ls : Array Slot), J22 () → Wd g.1 A s.heap ((wTP g q q2) (T9, S)) H locs → lv_has ls 8 [(0, .ref (q 0)), (1, .ref (q2 0)), (2, .int a2), (4, .int a4), (5, .int x6), (6, .int x7), (7, .int x8)] → W p l e (rmm 5 107) s m args below meth c H locs 0 0 Q (F0 m 46 ls []) := by
        intro  H locs ls h hw hl
        replace h := hJ23 () h
        refine lv_aload_n hx hb dX4_takeCells_46 rfl (lv_at hl 0 rfl) ?_
        refine lv_iload hx hb dX4_takeCells_47 (lv_at hl 5 rfl) ?_
        refine lv_bipush (v := (15 : Int32)) hx hb dX4_takeCells_49 (by decide) ?_
        refine mcalli (w1 := (fun u9 => (wTP g q q2) (u9, S))) (va_runV (As := [.int x7, .int (15 : Int32)]) (rest := []) hC (kX4_isNumber l g aK aV q H.size T9 x7 (15 : Int32) _ h) (cwV 2 hts gX4_takeCells_X4_isNumber rfl rfl rfl (by decide +kernel) ⟨Nat.le_of_ble_eq_true rfl, Nat.le_of_ble_eq_true rfl⟩) (mpreV (E5_ok aK aV) hK hE hA hw (TP_wt_1 g) 0 rfl rfl) rfl rfl hl.1 rfl (lv_room (Nat.le_of_ble_eq_true rfl)) dX4_takeCells_51 ⟨Nat.zero_le _, Nat.zero_le _⟩) hA hw (TP_wt_1 g) (fun u9 => TP_wt g u9) (fun r25 u26 H locs h hw => ?_)
        obtain ⟨hu, h⟩ := h
        replace hu := hu.symm
        subst hu
        refine lv_if_ne (tgt := 59) hx hb dX4_takeCells_54 (by decide) (fun c34 => ?_) (fun c34 => ?_)
        · replace h := h.2 c34
          refine lv_iload hx hb dX4_takeCells_59 (lv_at hl 4 rfl) ?_
          refine lv_iconst (v := (1 : Int32)) hx hb dX4_takeCells_61 (by decide) ?_
          refine lv_aload_n hx hb dX4_takeCells_62 rfl (lv_at hl 0 rfl) ?_
          refine TP_tg5 hC hinX4 hK hw (List.mem_of_getElem? (i := 2) rfl) dX4_takeCells_63 ?_
          refine lv_ishl hx hb dX4_takeCells_66 ?_
          refine lv_ior hx hb dX4_takeCells_67 ?_
          refine lv_topi (fun x27 ex27 => ?_)
          replace h := h x27 ex27
          refine lv_istore (lv' := [(5, .int x27), (0, .ref (q 0)), (1, .ref (q2 0)), (2, .int a2), (4, .int a4), (6, .int x7), (7, .int x8)]) hx hb dX4_takeCells_68 hl (by decide) rfl (fun ls hl => ?_)
          refine lv_aload_n hx hb dX4_takeCells_70 rfl (lv_at hl 1 rfl) ?_
          refine TP_tg5 hC hinX4 hK hw (List.mem_of_getElem? (i := 2) rfl) dX4_takeCells_71 ?_
          refine lv_iconst (v := (1 : Int32)) hx hb dX4_takeCells_74 (by decide) ?_
          refine lv_iadd hx hb dX4_takeCells_75 ?_
          refine lv_topi (fun x28 ex28 => ?_)
          replace h := h x28 ex28
          refine lv_istore (lv' := [(6, .int x28), (5, .int x27), (0, .ref (q 0)), (1, .ref (q2 0)), (2, .int a2), (4, .int a4), (7, .int x8)]) hx hb dX4_takeCells_76 hl (by decide) rfl (fun ls hl => ?_)
          refine lv_aload_n hx hb dX4_takeCells_78 rfl (lv_at hl 2 rfl) ?_
          refine mcallv (w1 := (fun u9 => (wTP g q q2) (u9, S))) (va_runV (As := []) (rest := []) hC (kX4_takeToken l g aK aV q H.size T9  _ h) (cwV 0 hts gX4_takeCells_X4_takeToken rfl rfl rfl (by decide +kernel) ⟨Nat.le_of_ble_eq_true rfl, Nat.le_of_ble_eq_true rfl⟩) (mpreV (E5_ok aK aV) hK hE hA hw (TP_wt_1 g) 0 rfl rfl) rfl rfl hl.1 rfl (lv_room (Nat.le_of_ble_eq_true rfl)) dX4_takeCells_79 ⟨Nat.zero_le _, Nat.zero_le _⟩) hA hw (TP_wt_1 g) (fun u9 => TP_wt g u9) (fun u30 H locs h hw => ?_)
          obtain ⟨T31, rfl⟩ : ∃ z, z = u30 := ⟨_, rfl⟩
          obtain ⟨x32, ex32⟩ : ∃ y : Int32, y = x8 + (1 : Int32) := ⟨_, rfl⟩
          refine lv_iinc (v := x32) (lv' := [(7, .int x32), (6, .int x28), (5, .int x27), (0, .ref (q 0)), (1, .ref (q2 0)), (2, .int a2), (4, .int a4)]) hx hb dX4_takeCells_82 hl (k := 6) rfl (by rw [ex32]; rfl) (by decide) rfl (fun ls hl => ?_)
          replace h := h x32 ex32
          refine lv_goto (tgt := 23) hx hb dX4_takeCells_85 (by decide) ?_
          exact h _ _ _ hw (lv_sub hl [3, 4, 5, 6, 2, 1, 0] rfl)
        · replace h := h.1 c34
          refine lv_iconst (v := (0 : Int32)) hx hb dX4_takeCells_57 (by decide) ?_
          rw [hQ]
          exact mretz (w := (wTP g q q2)) (u := (T9, S)) hC hr hlocks hK hw (Or.inl rfl) h dX4_takeCells_58
      refine lv_if_le (tgt := 46) hx hb dX4_takeCells_32 (by decide) (fun c36 => ?_) (fun c36 => ?_)
      · replace h := h.1 c36
        exact join24  _ _ _ h hw (lv_sub hl [0, 1, 2, 3, 4, 5, 6] rfl)
      · replace h := h.2 c36
        refine lv_aload_n hx hb dX4_takeCells_35 rfl (lv_at hl 0 rfl) ?_
        refine TP_tg2 hC hinX4 hK hw (List.mem_of_getElem? (i := 1) rfl) dX4_takeCells_36 ?_
        refine lv_iconst (v := (2 : Int32)) hx hb dX4_takeCells_39 (by decide) ?_
        refine lv_icmp_eq (tgt := 46) hx hb dX4_takeCells_40 (by decide) (fun c35 => ?_) (fun c35 => ?_)
        · replace h := h.1 c35
          exact join24  _ _ _ h hw (lv_sub hl [0, 1, 2, 3, 4, 5, 6] rfl)
        · replace h := h.2 c35
          refine lv_goto (tgt := 88) hx hb dX4_takeCells_43 (by decide) ?_
          exact join18  _ _ _ h hw (lv_sub hl [1, 2, 3, 4] rfl)
  · replace h := h.1 c38
    refine lv_iconst (v := (1 : Int32)) hx hb dX4_takeCells_8 (by decide) ?_
    rw [hQ]
    exact mretz (w := (wTP g q q2)) (u := (T, S)) hC hr hlocks hK hw (Or.inr rfl) h dX4_takeCells_9
def wX4_takeMark (T : Bun) (S : Bun) (a2 : Int32) (a3 : Nat) (a4 : Int32) (post : Int32 → Bun → Bun → Prop) : Prop :=
  a3 < 14 ∧ wX4_isWord T a3 (fun r1 => ((r1 = 0 → post (1 : Int32) T S) ∧ (¬ (r1 = 0) → wX4_takeToken T  (fun T5 => vp_in a4 6 ∧ wX4_isNumber T5 (0 : Int32) (tbMost a4.toNatClampNeg) (fun r7 => ((r7 = 0 → post (0 : Int32) T5 S) ∧ (¬ (r7 = 0) → wX1_putMark S a2 a4 (T5 0 5) (fun S11 => wX4_takeToken T5  (fun T14 => post (1 : Int32) T14 S11)))))))))
set_option maxRecDepth 100000 in
set_option maxHeartbeats 4000000 in
theorem kX4_takeMark (l : Launch) (g : Gl) (aK : Nat → Nat) (aV : Nat → Nat) (q : Nat → Nat) (q2 : Nat → Nat) (sz : Nat) (T : Bun) (S : Bun) (a2 : Int32) (a3 : Nat) (a4 : Int32) (post : Int32 → Bun → Bun → Prop) (h : wX4_takeMark T S a2 a3 a4 post) : Met l yX4_takeMark wsX4_takeMark (rmm 5 107) (wPc g (E5 aK aV) ((wTP g q q2) (T, S)) sz [.ref (q 0), .ref (q2 0), .int a2, .ref (aK a3), .int a4]) (va_Qi (fun (r : Int32) (u : Bun × Bun) => post r u.1 u.2) (wB g (wTP g q q2) (va_A ((wTP g q q2) (T, S)) sz)) (va_A ((wTP g q q2) (T, S)) sz)) 0 0 (va_A ((wTP g q q2) (T, S)) sz) := by
  refine mstart (Qf := fun A => va_Qi (fun (r : Int32) (u : Bun × Bun) => post r u.1 u.2) (wB g (wTP g q q2) A) A) (by decide) rfl (Nat.le_of_ble_eq_true rfl) ?_
  intro p e s m args below meth c A Q H locs ls hC hr hlocks hname hQ hA hK hE hw hl
  have hC : CallFix p m c cX4_takeMark 5 s args wsX4_takeMark RX4 := hC
  obtain ⟨hx, hb, -, hown, hts⟩ := id hC
  have hl : lv_has ls 5 [(0, .ref (q 0)), (1, .ref (q2 0)), (2, .int a2), (3, .ref (aK a3)), (4, .int a4)] := hl
  rw [wX4_takeMark] at h
  have hinX4 : ∀ w ∈ wsX40, w ∈ wsX4_takeMark := fun w hw9 => List.mem_cons_of_mem _ (List.mem_append_left _ (List.mem_append_right _ hw9))
  obtain ⟨hstr, h⟩ := h
  refine lv_aload_n hx hb dX4_takeMark_0 rfl (lv_at hl 0 rfl) ?_
  refine lv_aload_n hx hb dX4_takeMark_1 rfl (lv_at hl 3 rfl) ?_
  refine mcalli (w1 := (fun u9 => (wTP g q q2) (u9, S))) (va_runV (As := [.ref (aK a3)]) (rest := []) hC (kX4_isWord l g aK aV q H.size T a3 _ h) (cwV 1 hts gX4_takeMark_X4_isWord rfl rfl rfl (by decide +kernel) ⟨Nat.le_of_ble_eq_true rfl, Nat.le_of_ble_eq_true rfl⟩) (mpreV (E5_ok aK aV) hK hE hA hw (TP_wt_1 g) 0 rfl rfl) rfl rfl hl.1 rfl (lv_room (Nat.le_of_ble_eq_true rfl)) dX4_takeMark_2 ⟨Nat.zero_le _, Nat.zero_le _⟩) hA hw (TP_wt_1 g) (fun u9 => TP_wt g u9) (fun r1 u2 H locs h hw => ?_)
  obtain ⟨hu, h⟩ := h
  replace hu := hu.symm
  subst hu
  refine lv_if_ne (tgt := 10) hx hb dX4_takeMark_5 (by decide) (fun c16 => ?_) (fun c16 => ?_)
  · replace h := h.2 c16
    refine lv_aload_n hx hb dX4_takeMark_10 rfl (lv_at hl 0 rfl) ?_
    refine mcallv (w1 := (fun u9 => (wTP g q q2) (u9, S))) (va_runV (As := []) (rest := []) hC (kX4_takeToken l g aK aV q H.size T  _ h) (cwV 0 hts gX4_takeMark_X4_takeToken rfl rfl rfl (by decide +kernel) ⟨Nat.le_of_ble_eq_true rfl, Nat.le_of_ble_eq_true rfl⟩) (mpreV (E5_ok aK aV) hK hE hA hw (TP_wt_1 g) 0 rfl rfl) rfl rfl hl.1 rfl (lv_room (Nat.le_of_ble_eq_true rfl)) dX4_takeMark_11 ⟨Nat.zero_le _, Nat.zero_le _⟩) hA hw (TP_wt_1 g) (fun u9 => TP_wt g u9) (fun u4 H locs h hw => ?_)
    obtain ⟨T5, rfl⟩ : ∃ z, z = u4 := ⟨_, rfl⟩
    refine lv_aload_n hx hb dX4_takeMark_14 rfl (lv_at hl 0 rfl) ?_
    refine lv_iconst (v := (0 : Int32)) hx hb dX4_takeMark_15 (by decide) ?_
    obtain ⟨t6, hZt6, hTt6⟩ := hE.tbMost
    refine va_getsN hx hb hZt6 hw.2.2 hown (va_Nw.use rfl hE.nFX4_93) (fun _ h9 => h9) dX4_takeMark_16 ?_
    refine lv_iload hx hb dX4_takeMark_19 (lv_at hl 4 rfl) ?_
    obtain ⟨hi, h⟩ := h
    refine va_ti hx hb hTt6 hw.2.2 hi rfl dX4_takeMark_21 ?_
    refine mcalli (w1 := (fun u9 => (wTP g q q2) (u9, S))) (va_runV (As := [.int (0 : Int32), .int (tbMost a4.toNatClampNeg)]) (rest := []) hC (kX4_isNumber l g aK aV q H.size T5 (0 : Int32) (tbMost a4.toNatClampNeg) _ h) (cwV 2 hts gX4_takeMark_X4_isNumber rfl rfl rfl (by decide +kernel) ⟨Nat.le_of_ble_eq_true rfl, Nat.le_of_ble_eq_true rfl⟩) (mpreV (E5_ok aK aV) hK hE hA hw (TP_wt_1 g) 0 rfl rfl) rfl rfl hl.1 rfl (lv_room (Nat.le_of_ble_eq_true rfl)) dX4_takeMark_22 ⟨Nat.zero_le _, Nat.zero_le _⟩) hA hw (TP_wt_1 g) (fun u9 => TP_wt g u9) (fun r7 u8 H locs h hw => ?_)
    obtain ⟨hu, h⟩ := h
    replace hu := hu.symm
    subst hu
    refine lv_if_ne (tgt := 30) hx hb dX4_takeMark_25 (by decide) (fun c15 => ?_) (fun c15 => ?_)
    · replace h := h.2 c15
      refine lv_aload_n hx hb dX4_takeMark_30 rfl (lv_at hl 1 rfl) ?_
      refine lv_iload_n hx hb dX4_takeMark_31 rfl (lv_at hl 2 rfl) ?_
      refine lv_iload hx hb dX4_takeMark_32 (lv_at hl 4 rfl) ?_
      refine lv_aload_n hx hb dX4_takeMark_34 rfl (lv_at hl 0 rfl) ?_
      refine TP_tg5 hC hinX4 hK hw (List.mem_of_getElem? (i := 1) rfl) dX4_takeMark_35 ?_
      refine mcallv (w1 := (fun u9 => (wTP g q q2) (T5, u9))) (va_runVN (C := RX1) (As := [.int a2, .int a4, .int (T5 0 5)]) (rest := []) hC (kX1_putMark l g aK aV q2 H.size S a2 a4 (T5 0 5) _ h) ⟨va_cnB 3 hts gX4_takeMark_X1_putMark_n89 rfl rfl rfl hE.nMX4_89 (hts (.initialized RX1) (List.mem_of_getElem? (i := 84) rfl)) (by decide +kernel) ⟨Nat.le_of_ble_eq_true rfl, Nat.le_of_ble_eq_true rfl⟩, (hts (.instanceMethod yX1_putMark) (List.mem_of_getElem? (i := 83) rfl)), (hts (.selects RX1 yX1_putMark yX1_putMark) (List.mem_of_getElem? (i := 85) rfl))⟩ (mpreV (E5_ok aK aV) hK hE hA hw (TP_wp_1 g) 0 rfl rfl) rfl rfl hl.1 rfl (lv_room (Nat.le_of_ble_eq_true rfl)) dX4_takeMark_38 ⟨Nat.zero_le _, Nat.zero_le _⟩) hA hw (TP_wp_1 g) (fun u9 => TP_wp g u9) (fun u10 H locs h hw => ?_)
      obtain ⟨S11, rfl⟩ : ∃ z, z = u10 := ⟨_, rfl⟩
      refine lv_aload_n hx hb dX4_takeMark_41 rfl (lv_at hl 0 rfl) ?_
      refine mcallv (w1 := (fun u9 => (wTP g q q2) (u9, S11))) (va_runV (As := []) (rest := []) hC (kX4_takeToken l g aK aV q H.size T5  _ h) (cwV 0 hts gX4_takeMark_X4_takeToken rfl rfl rfl (by decide +kernel) ⟨Nat.le_of_ble_eq_true rfl, Nat.le_of_ble_eq_true rfl⟩) (mpreV (E5_ok aK aV) hK hE hA hw (TP_wt_1 g) 0 rfl rfl) rfl rfl hl.1 rfl (lv_room (Nat.le_of_ble_eq_true rfl)) dX4_takeMark_42 ⟨Nat.zero_le _, Nat.zero_le _⟩) hA hw (TP_wt_1 g) (fun u9 => TP_wt g u9) (fun u13 H locs h hw => ?_)
      obtain ⟨T14, rfl⟩ : ∃ z, z = u13 := ⟨_, rfl⟩
      refine lv_iconst (v := (1 : Int32)) hx hb dX4_takeMark_45 (by decide) ?_
      rw [hQ]
      exact mretz (w := (wTP g q q2)) (u := (T14, S11)) hC hr hlocks hK hw (Or.inr rfl) h dX4_takeMark_46
    · replace h := h.1 c15
      refine lv_iconst (v := (0 : Int32)) hx hb dX4_takeMark_28 (by decide) ?_
      rw [hQ]
      exact mretz (w := (wTP g q q2)) (u := (T5, S)) hC hr hlocks hK hw (Or.inl rfl) h dX4_takeMark_29
  · replace h := h.1 c16
    refine lv_iconst (v := (1 : Int32)) hx hb dX4_takeMark_8 (by decide) ?_
    rw [hQ]
    exact mretz (w := (wTP g q q2)) (u := (T, S)) hC hr hlocks hK hw (Or.inr rfl) h dX4_takeMark_9
def wX4_takeField (T : Bun) (S : Bun)  (post : Int32 → Bun → Bun → Prop) : Prop :=
  (((S 0 0) < (6 : Int32) → wX1_addField S  (fun r1 S3 => wX4_takeToken T  (fun T6 => wX4_takeCells T6 S3 r1 1 (0 : Int32) (fun r7 T9 S10 => ((r7 = 0 → post (0 : Int32) T9 S10) ∧ (¬ (r7 = 0) → wX4_takeCells T9 S10 r1 2 (1 : Int32) (fun r11 T13 S14 => ((r11 = 0 → post (0 : Int32) T13 S14) ∧ (¬ (r11 = 0) → wX4_takeMark T13 S14 r1 3 (2 : Int32) (fun r15 T17 S18 => ((r15 = 0 → post (0 : Int32) T17 S18) ∧ (¬ (r15 = 0) → wX4_takeMark T17 S18 r1 4 (3 : Int32) (fun r19 T21 S22 => ((r19 = 0 → post (0 : Int32) T21 S22) ∧ (¬ (r19 = 0) → wX4_takeMark T21 S22 r1 5 (4 : Int32) (fun r23 T25 S26 => ((r23 = 0 → post (0 : Int32) T25 S26) ∧ (¬ (r23 = 0) → post (1 : Int32) T25 S26)))))))))))))))))) ∧ (¬ ((S 0 0) < (6 : Int32)) → post (0 : Int32) T S))
set_option maxRecDepth 100000 in
set_option maxHeartbeats 4000000 in
theorem kX4_takeField (l : Launch) (g : Gl) (aK : Nat → Nat) (aV : Nat → Nat) (q : Nat → Nat) (q2 : Nat → Nat) (sz : Nat) (T : Bun) (S : Bun)  (post : Int32 → Bun → Bun → Prop) (h : wX4_takeField T S  post) : Met l yX4_takeField wsX4_takeField (rmm 6 134) (wPc g (E5 aK aV) ((wTP g q q2) (T, S)) sz [.ref (q 0), .ref (q2 0)]) (va_Qi (fun (r : Int32) (u : Bun × Bun) => post r u.1 u.2) (wB g (wTP g q q2) (va_A ((wTP g q q2) (T, S)) sz)) (va_A ((wTP g q q2) (T, S)) sz)) 0 0 (va_A ((wTP g q q2) (T, S)) sz) := by
  refine mstart (Qf := fun A => va_Qi (fun (r : Int32) (u : Bun × Bun) => post r u.1 u.2) (wB g (wTP g q q2) A) A) (by decide) rfl (Nat.le_of_ble_eq_true rfl) ?_
  intro p e s m args below meth c A Q H locs ls hC hr hlocks hname hQ hA hK hE hw hl
  have hC : CallFix p m c cX4_takeField 3 s args wsX4_takeField RX4 := hC
  obtain ⟨hx, hb, -, hown, hts⟩ := id hC
  have hl : lv_has ls 3 [(0, .ref (q 0)), (1, .ref (q2 0))] := hl
  rw [wX4_takeField] at h
  have hinX1 : ∀ w ∈ wsX10, w ∈ wsX4_takeField := fun w hw9 => List.mem_cons_of_mem _ (List.mem_append_left _ (List.mem_append_right _ hw9))
  refine lv_aload_n hx hb dX4_takeField_0 rfl (lv_at hl 1 rfl) ?_
  refine TP_pg0 hC hinX1 hK hw hE.nFX4_57 dX4_takeField_1 ?_
  refine lv_bipush (v := (6 : Int32)) hx hb dX4_takeField_4 (by decide) ?_
  refine lv_icmp_lt (tgt := 11) hx hb dX4_takeField_6 (by decide) (fun c32 => ?_) (fun c32 => ?_)
  · replace h := h.1 c32
    refine lv_aload_n hx hb dX4_takeField_11 rfl (lv_at hl 1 rfl) ?_
    refine mcalli (w1 := (fun u9 => (wTP g q q2) (T, u9))) (va_runVN (C := RX1) (As := []) (rest := []) hC (kX1_addField l g aK aV q2 H.size S  _ h) ⟨va_cnB 0 hts gX4_takeField_X1_addField_n62 rfl rfl rfl hE.nMX4_62 (hts (.initialized RX1) (List.mem_of_getElem? (i := 2) rfl)) (by decide +kernel) ⟨Nat.le_of_ble_eq_true rfl, Nat.le_of_ble_eq_true rfl⟩, (hts (.instanceMethod yX1_addField) (List.mem_of_getElem? (i := 1) rfl)), (hts (.selects RX1 yX1_addField yX1_addField) (List.mem_of_getElem? (i := 3) rfl))⟩ (mpreV (E5_ok aK aV) hK hE hA hw (TP_wp_1 g) 0 rfl rfl) rfl rfl hl.1 rfl (lv_room (Nat.le_of_ble_eq_true rfl)) dX4_takeField_12 ⟨Nat.zero_le _, Nat.zero_le _⟩) hA hw (TP_wp_1 g) (fun u9 => TP_wp g u9) (fun r1 u2 H locs h hw => ?_)
    obtain ⟨S3, rfl⟩ : ∃ z, z = u2 := ⟨_, rfl⟩
    refine lv_istore_n (lv' := [(2, .int r1), (0, .ref (q 0)), (1, .ref (q2 0))]) hx hb dX4_takeField_15 rfl hl (by decide) rfl (fun ls hl => ?_)
    refine lv_aload_n hx hb dX4_takeField_16 rfl (lv_at hl 1 rfl) ?_
    refine mcallv (w1 := (fun u9 => (wTP g q q2) (u9, S3))) (va_runV (As := []) (rest := []) hC (kX4_takeToken l g aK aV q H.size T  _ h) (cwV 0 hts gX4_takeField_X4_takeToken rfl rfl rfl (by decide +kernel) ⟨Nat.le_of_ble_eq_true rfl, Nat.le_of_ble_eq_true rfl⟩) (mpreV (E5_ok aK aV) hK hE hA hw (TP_wt_1 g) 0 rfl rfl) rfl rfl hl.1 rfl (lv_room (Nat.le_of_ble_eq_true rfl)) dX4_takeField_17 ⟨Nat.zero_le _, Nat.zero_le _⟩) hA hw (TP_wt_1 g) (fun u9 => TP_wt g u9) (fun u5 H locs h hw => ?_)
    obtain ⟨T6, rfl⟩ : ∃ z, z = u5 := ⟨_, rfl⟩
    refine lv_aload_n hx hb dX4_takeField_20 rfl (lv_at hl 1 rfl) ?_
    refine lv_aload_n hx hb dX4_takeField_21 rfl (lv_at hl 2 rfl) ?_
    refine lv_iload_n hx hb dX4_takeField_22 rfl (lv_at hl 0 rfl) ?_
    refine va_ldcS hx hb hown hE.str65 dX4_takeField_23 ?_
    refine lv_iconst (v := (0 : Int32)) hx hb dX4_takeField_25 (by decide) ?_
    refine mcalli (w1 := (wTP g q q2)) (va_runV (As := [.ref (q2 0), .int r1, .ref (aK 1), .int (0 : Int32)]) (rest := []) hC (kX4_takeCells l g aK aV q q2 H.size T6 S3 r1 1 (0 : Int32) _ h) (cwV 4 hts gX4_takeField_X4_takeCells rfl rfl rfl (by decide +kernel) ⟨Nat.le_of_ble_eq_true rfl, Nat.le_of_ble_eq_true rfl⟩) (mpreV (E5_ok aK aV) hK hE hA hw (Sub1.refl _) 0 rfl rfl) rfl rfl hl.1 rfl (lv_room (Nat.le_of_ble_eq_true rfl)) dX4_takeField_26 ⟨Nat.zero_le _, Nat.zero_le _⟩) hA hw (Sub1.refl _) (fun _ => Sub.whole rfl) (fun r7 u8 H locs h hw => ?_)
    obtain ⟨T9, S10⟩ := u8
    refine lv_if_eq (tgt := 84) hx hb dX4_takeField_29 (by decide) (fun c31 => ?_) (fun c31 => ?_)
    · replace h := h.1 c31
      refine lv_iconst (v := (0 : Int32)) hx hb dX4_takeField_84 (by decide) ?_
      rw [hQ]
      exact mretz (w := (wTP g q q2)) (u := (T9, S10)) hC hr hlocks hK hw (Or.inl rfl) h dX4_takeField_85
    · replace h := h.2 c31
      refine lv_aload_n hx hb dX4_takeField_32 rfl (lv_at hl 1 rfl) ?_
      refine lv_aload_n hx hb dX4_takeField_33 rfl (lv_at hl 2 rfl) ?_
      refine lv_iload_n hx hb dX4_takeField_34 rfl (lv_at hl 0 rfl) ?_
      refine va_ldcS hx hb hown hE.str71 dX4_takeField_35 ?_
      refine lv_iconst (v := (1 : Int32)) hx hb dX4_takeField_37 (by decide) ?_
      refine mcalli (w1 := (wTP g q q2)) (va_runV (As := [.ref (q2 0), .int r1, .ref (aK 2), .int (1 : Int32)]) (rest := []) hC (kX4_takeCells l g aK aV q q2 H.size T9 S10 r1 2 (1 : Int32) _ h) (cwV 4 hts gX4_takeField_X4_takeCells rfl rfl rfl (by decide +kernel) ⟨Nat.le_of_ble_eq_true rfl, Nat.le_of_ble_eq_true rfl⟩) (mpreV (E5_ok aK aV) hK hE hA hw (Sub1.refl _) 0 rfl rfl) rfl rfl hl.1 rfl (lv_room (Nat.le_of_ble_eq_true rfl)) dX4_takeField_38 ⟨Nat.zero_le _, Nat.zero_le _⟩) hA hw (Sub1.refl _) (fun _ => Sub.whole rfl) (fun r11 u12 H locs h hw => ?_)
      obtain ⟨T13, S14⟩ := u12
      refine lv_if_eq (tgt := 84) hx hb dX4_takeField_41 (by decide) (fun c30 => ?_) (fun c30 => ?_)
      · replace h := h.1 c30
        refine lv_iconst (v := (0 : Int32)) hx hb dX4_takeField_84 (by decide) ?_
        rw [hQ]
        exact mretz (w := (wTP g q q2)) (u := (T13, S14)) hC hr hlocks hK hw (Or.inl rfl) h dX4_takeField_85
      · replace h := h.2 c30
        refine lv_aload_n hx hb dX4_takeField_44 rfl (lv_at hl 1 rfl) ?_
        refine lv_aload_n hx hb dX4_takeField_45 rfl (lv_at hl 2 rfl) ?_
        refine lv_iload_n hx hb dX4_takeField_46 rfl (lv_at hl 0 rfl) ?_
        refine va_ldcS hx hb hown hE.str73 dX4_takeField_47 ?_
        refine lv_iconst (v := (2 : Int32)) hx hb dX4_takeField_49 (by decide) ?_
        refine mcalli (w1 := (wTP g q q2)) (va_runV (As := [.ref (q2 0), .int r1, .ref (aK 3), .int (2 : Int32)]) (rest := []) hC (kX4_takeMark l g aK aV q q2 H.size T13 S14 r1 3 (2 : Int32) _ h) (cwV 4 hts gX4_takeField_X4_takeMark rfl rfl rfl (by decide +kernel) ⟨Nat.le_of_ble_eq_true rfl, Nat.le_of_ble_eq_true rfl⟩) (mpreV (E5_ok aK aV) hK hE hA hw (Sub1.refl _) 0 rfl rfl) rfl rfl hl.1 rfl (lv_room (Nat.le_of_ble_eq_true rfl)) dX4_takeField_50 ⟨Nat.zero_le _, Nat.zero_le _⟩) hA hw (Sub1.refl _) (fun _ => Sub.whole rfl) (fun r15 u16 H locs h hw => ?_)
        obtain ⟨T17, S18⟩ := u16
        refine lv_if_eq (tgt := 84) hx hb dX4_takeField_53 (by decide) (fun c29 => ?_) (fun c29 => ?_)
        · replace h := h.1 c29
          refine lv_iconst (v := (0 : Int32)) hx hb dX4_takeField_84 (by decide) ?_
          rw [hQ]
          exact mretz (w := (wTP g q q2)) (u := (T17, S18)) hC hr hlocks hK hw (Or.inl rfl) h dX4_takeField_85
        · replace h := h.2 c29
          refine lv_aload_n hx hb dX4_takeField_56 rfl (lv_at hl 1 rfl) ?_
          refine lv_aload_n hx hb dX4_takeField_57 rfl (lv_at hl 2 rfl) ?_
          refine lv_iload_n hx hb dX4_takeField_58 rfl (lv_at hl 0 rfl) ?_
          refine va_ldcS hx hb hown hE.str78 dX4_takeField_59 ?_
          refine lv_iconst (v := (3 : Int32)) hx hb dX4_takeField_61 (by decide) ?_
          refine mcalli (w1 := (wTP g q q2)) (va_runV (As := [.ref (q2 0), .int r1, .ref (aK 4), .int (3 : Int32)]) (rest := []) hC (kX4_takeMark l g aK aV q q2 H.size T17 S18 r1 4 (3 : Int32) _ h) (cwV 4 hts gX4_takeField_X4_takeMark rfl rfl rfl (by decide +kernel) ⟨Nat.le_of_ble_eq_true rfl, Nat.le_of_ble_eq_true rfl⟩) (mpreV (E5_ok aK aV) hK hE hA hw (Sub1.refl _) 0 rfl rfl) rfl rfl hl.1 rfl (lv_room (Nat.le_of_ble_eq_true rfl)) dX4_takeField_62 ⟨Nat.zero_le _, Nat.zero_le _⟩) hA hw (Sub1.refl _) (fun _ => Sub.whole rfl) (fun r19 u20 H locs h hw => ?_)
          obtain ⟨T21, S22⟩ := u20
          refine lv_if_eq (tgt := 84) hx hb dX4_takeField_65 (by decide) (fun c28 => ?_) (fun c28 => ?_)
          · replace h := h.1 c28
            refine lv_iconst (v := (0 : Int32)) hx hb dX4_takeField_84 (by decide) ?_
            rw [hQ]
            exact mretz (w := (wTP g q q2)) (u := (T21, S22)) hC hr hlocks hK hw (Or.inl rfl) h dX4_takeField_85
          · replace h := h.2 c28
            refine lv_aload_n hx hb dX4_takeField_68 rfl (lv_at hl 1 rfl) ?_
            refine lv_aload_n hx hb dX4_takeField_69 rfl (lv_at hl 2 rfl) ?_
            refine lv_iload_n hx hb dX4_takeField_70 rfl (lv_at hl 0 rfl) ?_
            refine va_ldcS hx hb hown hE.str80 dX4_takeField_71 ?_
            refine lv_iconst (v := (4 : Int32)) hx hb dX4_takeField_73 (by decide) ?_
            refine mcalli (w1 := (wTP g q q2)) (va_runV (As := [.ref (q2 0), .int r1, .ref (aK 5), .int (4 : Int32)]) (rest := []) hC (kX4_takeMark l g aK aV q q2 H.size T21 S22 r1 5 (4 : Int32) _ h) (cwV 4 hts gX4_takeField_X4_takeMark rfl rfl rfl (by decide +kernel) ⟨Nat.le_of_ble_eq_true rfl, Nat.le_of_ble_eq_true rfl⟩) (mpreV (E5_ok aK aV) hK hE hA hw (Sub1.refl _) 0 rfl rfl) rfl rfl hl.1 rfl (lv_room (Nat.le_of_ble_eq_true rfl)) dX4_takeField_74 ⟨Nat.zero_le _, Nat.zero_le _⟩) hA hw (Sub1.refl _) (fun _ => Sub.whole rfl) (fun r23 u24 H locs h hw => ?_)
            obtain ⟨T25, S26⟩ := u24
            refine lv_if_eq (tgt := 84) hx hb dX4_takeField_77 (by decide) (fun c27 => ?_) (fun c27 => ?_)
            · replace h := h.1 c27
              refine lv_iconst (v := (0 : Int32)) hx hb dX4_takeField_84 (by decide) ?_
              rw [hQ]
              exact mretz (w := (wTP g q q2)) (u := (T25, S26)) hC hr hlocks hK hw (Or.inl rfl) h dX4_takeField_85
            · replace h := h.2 c27
              refine lv_iconst (v := (1 : Int32)) hx hb dX4_takeField_80 (by decide) ?_
              refine lv_goto (tgt := 85) hx hb dX4_takeField_81 (by decide) ?_
              rw [hQ]
              exact mretz (w := (wTP g q q2)) (u := (T25, S26)) hC hr hlocks hK hw (Or.inr rfl) h dX4_takeField_85
  · replace h := h.2 c32
    refine lv_iconst (v := (0 : Int32)) hx hb dX4_takeField_9 (by decide) ?_
    rw [hQ]
    exact mretz (w := (wTP g q q2)) (u := (T, S)) hC hr hlocks hK hw (Or.inl rfl) h dX4_takeField_10
def wX4_takeJoin (T : Bun) (S : Bun)  (post : Int32 → Bun → Bun → Prop) : Prop :=
  wX4_takeToken T  (fun T3 => wX4_isNumber T3 (0 : Int32) ((S 0 0) - (1 : Int32)) (fun r4 => ((r4 = 0 → post (0 : Int32) T3 S) ∧ (¬ (r4 = 0) → ∀ x6 : Int32, x6 = T3 0 5 → wX4_takeToken T3  (fun T9 => wX4_isNumber T9 (0 : Int32) ((S 0 0) - (1 : Int32)) (fun r10 => ((r10 = 0 → post (0 : Int32) T9 S) ∧ (¬ (r10 = 0) → (((T9 0 5) = x6 → post (0 : Int32) T9 S) ∧ (¬ ((T9 0 5) = x6) → vp_in x6 6 ∧ vp_in x6 6 ∧ ∀ S12 : Bun, S12 = up S 4 x6.toNatClampNeg ((S 4 x6.toNatClampNeg) ||| ((1 : Int32) <<< ((T9 0 5) &&& 31))) → wX4_takeToken T9  (fun T15 => post (1 : Int32) T15 S12)))))))))))
set_option maxRecDepth 100000 in
set_option maxHeartbeats 4000000 in
theorem kX4_takeJoin (l : Launch) (g : Gl) (aK : Nat → Nat) (aV : Nat → Nat) (q : Nat → Nat) (q2 : Nat → Nat) (sz : Nat) (T : Bun) (S : Bun)  (post : Int32 → Bun → Bun → Prop) (h : wX4_takeJoin T S  post) : Met l yX4_takeJoin wsX4_takeJoin (rmm 3 60) (wPc g (E5 aK aV) ((wTP g q q2) (T, S)) sz [.ref (q 0), .ref (q2 0)]) (va_Qi (fun (r : Int32) (u : Bun × Bun) => post r u.1 u.2) (wB g (wTP g q q2) (va_A ((wTP g q q2) (T, S)) sz)) (va_A ((wTP g q q2) (T, S)) sz)) 0 0 (va_A ((wTP g q q2) (T, S)) sz) := by
  refine mstart (Qf := fun A => va_Qi (fun (r : Int32) (u : Bun × Bun) => post r u.1 u.2) (wB g (wTP g q q2) A) A) (by decide) rfl (Nat.le_of_ble_eq_true rfl) ?_
  intro p e s m args below meth c A Q H locs ls hC hr hlocks hname hQ hA hK hE hw hl
  have hC : CallFix p m c cX4_takeJoin 3 s args wsX4_takeJoin RX4 := hC
  obtain ⟨hx, hb, -, hown, hts⟩ := id hC
  have hl : lv_has ls 3 [(0, .ref (q 0)), (1, .ref (q2 0))] := hl
  rw [wX4_takeJoin] at h
  have hinX4 : ∀ w ∈ wsX40, w ∈ wsX4_takeJoin := fun w hw9 => List.mem_cons_of_mem _ (List.mem_append_right _ hw9)
  have hinX1 : ∀ w ∈ wsX10, w ∈ wsX4_takeJoin := fun w hw9 => List.mem_cons_of_mem _ (List.mem_append_left _ (List.mem_append_right _ hw9))
  refine lv_aload_n hx hb dX4_takeJoin_0 rfl (lv_at hl 0 rfl) ?_
  refine mcallv (w1 := (fun u9 => (wTP g q q2) (u9, S))) (va_runV (As := []) (rest := []) hC (kX4_takeToken l g aK aV q H.size T  _ h) (cwV 0 hts gX4_takeJoin_X4_takeToken rfl rfl rfl (by decide +kernel) ⟨Nat.le_of_ble_eq_true rfl, Nat.le_of_ble_eq_true rfl⟩) (mpreV (E5_ok aK aV) hK hE hA hw (TP_wt_1 g) 0 rfl rfl) rfl rfl hl.1 rfl (lv_room (Nat.le_of_ble_eq_true rfl)) dX4_takeJoin_1 ⟨Nat.zero_le _, Nat.zero_le _⟩) hA hw (TP_wt_1 g) (fun u9 => TP_wt g u9) (fun u2 H locs h hw => ?_)
  obtain ⟨T3, rfl⟩ : ∃ z, z = u2 := ⟨_, rfl⟩
  refine lv_aload_n hx hb dX4_takeJoin_4 rfl (lv_at hl 0 rfl) ?_
  refine lv_iconst (v := (0 : Int32)) hx hb dX4_takeJoin_5 (by decide) ?_
  refine lv_aload_n hx hb dX4_takeJoin_6 rfl (lv_at hl 1 rfl) ?_
  refine TP_pg0 hC hinX1 hK hw hE.nFX4_57 dX4_takeJoin_7 ?_
  refine lv_iconst (v := (1 : Int32)) hx hb dX4_takeJoin_10 (by decide) ?_
  refine lv_isub hx hb dX4_takeJoin_11 ?_
  refine mcalli (w1 := (fun u9 => (wTP g q q2) (u9, S))) (va_runV (As := [.int (0 : Int32), .int ((S 0 0) - (1 : Int32))]) (rest := []) hC (kX4_isNumber l g aK aV q H.size T3 (0 : Int32) ((S 0 0) - (1 : Int32)) _ h) (cwV 2 hts gX4_takeJoin_X4_isNumber rfl rfl rfl (by decide +kernel) ⟨Nat.le_of_ble_eq_true rfl, Nat.le_of_ble_eq_true rfl⟩) (mpreV (E5_ok aK aV) hK hE hA hw (TP_wt_1 g) 0 rfl rfl) rfl rfl hl.1 rfl (lv_room (Nat.le_of_ble_eq_true rfl)) dX4_takeJoin_12 ⟨Nat.zero_le _, Nat.zero_le _⟩) hA hw (TP_wt_1 g) (fun u9 => TP_wt g u9) (fun r4 u5 H locs h hw => ?_)
  obtain ⟨hu, h⟩ := h
  replace hu := hu.symm
  subst hu
  refine lv_if_ne (tgt := 20) hx hb dX4_takeJoin_15 (by decide) (fun c18 => ?_) (fun c18 => ?_)
  · replace h := h.2 c18
    refine lv_aload_n hx hb dX4_takeJoin_20 rfl (lv_at hl 0 rfl) ?_
    refine TP_tg5 hC hinX4 hK hw (List.mem_of_getElem? (i := 1) rfl) dX4_takeJoin_21 ?_
    refine lv_topi (fun x6 ex6 => ?_)
    replace h := h x6 ex6
    refine lv_istore_n (lv' := [(2, .int x6), (0, .ref (q 0)), (1, .ref (q2 0))]) hx hb dX4_takeJoin_24 rfl hl (by decide) rfl (fun ls hl => ?_)
    refine lv_aload_n hx hb dX4_takeJoin_25 rfl (lv_at hl 1 rfl) ?_
    refine mcallv (w1 := (fun u9 => (wTP g q q2) (u9, S))) (va_runV (As := []) (rest := []) hC (kX4_takeToken l g aK aV q H.size T3  _ h) (cwV 0 hts gX4_takeJoin_X4_takeToken rfl rfl rfl (by decide +kernel) ⟨Nat.le_of_ble_eq_true rfl, Nat.le_of_ble_eq_true rfl⟩) (mpreV (E5_ok aK aV) hK hE hA hw (TP_wt_1 g) 0 rfl rfl) rfl rfl hl.1 rfl (lv_room (Nat.le_of_ble_eq_true rfl)) dX4_takeJoin_26 ⟨Nat.zero_le _, Nat.zero_le _⟩) hA hw (TP_wt_1 g) (fun u9 => TP_wt g u9) (fun u8 H locs h hw => ?_)
    obtain ⟨T9, rfl⟩ : ∃ z, z = u8 := ⟨_, rfl⟩
    refine lv_aload_n hx hb dX4_takeJoin_29 rfl (lv_at hl 1 rfl) ?_
    refine lv_iconst (v := (0 : Int32)) hx hb dX4_takeJoin_30 (by decide) ?_
    refine lv_aload_n hx hb dX4_takeJoin_31 rfl (lv_at hl 2 rfl) ?_
    refine TP_pg0 hC hinX1 hK hw hE.nFX4_57 dX4_takeJoin_32 ?_
    refine lv_iconst (v := (1 : Int32)) hx hb dX4_takeJoin_35 (by decide) ?_
    refine lv_isub hx hb dX4_takeJoin_36 ?_
    refine mcalli (w1 := (fun u9 => (wTP g q q2) (u9, S))) (va_runV (As := [.int (0 : Int32), .int ((S 0 0) - (1 : Int32))]) (rest := []) hC (kX4_isNumber l g aK aV q H.size T9 (0 : Int32) ((S 0 0) - (1 : Int32)) _ h) (cwV 2 hts gX4_takeJoin_X4_isNumber rfl rfl rfl (by decide +kernel) ⟨Nat.le_of_ble_eq_true rfl, Nat.le_of_ble_eq_true rfl⟩) (mpreV (E5_ok aK aV) hK hE hA hw (TP_wt_1 g) 0 rfl rfl) rfl rfl hl.1 rfl (lv_room (Nat.le_of_ble_eq_true rfl)) dX4_takeJoin_37 ⟨Nat.zero_le _, Nat.zero_le _⟩) hA hw (TP_wt_1 g) (fun u9 => TP_wt g u9) (fun r10 u11 H locs h hw => ?_)
    obtain ⟨hu, h⟩ := h
    replace hu := hu.symm
    subst hu
    refine lv_if_eq (tgt := 51) hx hb dX4_takeJoin_40 (by decide) (fun c17 => ?_) (fun c17 => ?_)
    · replace h := h.1 c17
      refine lv_iconst (v := (0 : Int32)) hx hb dX4_takeJoin_51 (by decide) ?_
      rw [hQ]
      exact mretz (w := (wTP g q q2)) (u := (T9, S)) hC hr hlocks hK hw (Or.inl rfl) h dX4_takeJoin_52
    · replace h := h.2 c17
      refine lv_aload_n hx hb dX4_takeJoin_43 rfl (lv_at hl 1 rfl) ?_
      refine TP_tg5 hC hinX4 hK hw (List.mem_of_getElem? (i := 1) rfl) dX4_takeJoin_44 ?_
      refine lv_iload_n hx hb dX4_takeJoin_47 rfl (lv_at hl 0 rfl) ?_
      refine lv_icmp_ne (tgt := 53) hx hb dX4_takeJoin_48 (by decide) (fun c16 => ?_) (fun c16 => ?_)
      · replace h := h.2 c16
        refine lv_aload_n hx hb dX4_takeJoin_53 rfl (lv_at hl 2 rfl) ?_
        refine TP_pg3 hC hinX1 hK hw hE.nFX4_96 dX4_takeJoin_54 ?_
        refine lv_iload_n hx hb dX4_takeJoin_57 rfl (lv_at hl 0 rfl) ?_
        refine lv_dup2_11 hx hb dX4_takeJoin_58 rfl rfl ?_
        obtain ⟨hi, h⟩ := h
        refine TP_pl3 hC hK hw hi dX4_takeJoin_59 ?_
        refine lv_iconst (v := (1 : Int32)) hx hb dX4_takeJoin_60 (by decide) ?_
        refine lv_aload_n hx hb dX4_takeJoin_61 rfl (lv_at hl 1 rfl) ?_
        refine TP_tg5 hC hinX4 hK hw (List.mem_of_getElem? (i := 1) rfl) dX4_takeJoin_62 ?_
        refine lv_ishl hx hb dX4_takeJoin_65 ?_
        refine lv_ior hx hb dX4_takeJoin_66 ?_
        obtain ⟨hi, h⟩ := h
        refine TP_ps3 hC hK hw hi dX4_takeJoin_67 (fun S12 H locs eS12 hw => ?_)
        replace h := h S12 eS12
        refine lv_aload_n hx hb dX4_takeJoin_68 rfl (lv_at hl 1 rfl) ?_
        refine mcallv (w1 := (fun u9 => (wTP g q q2) (u9, S12))) (va_runV (As := []) (rest := []) hC (kX4_takeToken l g aK aV q H.size T9  _ h) (cwV 0 hts gX4_takeJoin_X4_takeToken rfl rfl rfl (by decide +kernel) ⟨Nat.le_of_ble_eq_true rfl, Nat.le_of_ble_eq_true rfl⟩) (mpreV (E5_ok aK aV) hK hE hA hw (TP_wt_1 g) 0 rfl rfl) rfl rfl hl.1 rfl (lv_room (Nat.le_of_ble_eq_true rfl)) dX4_takeJoin_69 ⟨Nat.zero_le _, Nat.zero_le _⟩) hA hw (TP_wt_1 g) (fun u9 => TP_wt g u9) (fun u14 H locs h hw => ?_)
        obtain ⟨T15, rfl⟩ : ∃ z, z = u14 := ⟨_, rfl⟩
        refine lv_iconst (v := (1 : Int32)) hx hb dX4_takeJoin_72 (by decide) ?_
        rw [hQ]
        exact mretz (w := (wTP g q q2)) (u := (T15, S12)) hC hr hlocks hK hw (Or.inr rfl) h dX4_takeJoin_73
      · replace h := h.1 c16
        refine lv_iconst (v := (0 : Int32)) hx hb dX4_takeJoin_51 (by decide) ?_
        rw [hQ]
        exact mretz (w := (wTP g q q2)) (u := (T9, S)) hC hr hlocks hK hw (Or.inl rfl) h dX4_takeJoin_52
  · replace h := h.1 c18
    refine lv_iconst (v := (0 : Int32)) hx hb dX4_takeJoin_18 (by decide) ?_
    rw [hQ]
    exact mretz (w := (wTP g q q2)) (u := (T3, S)) hC hr hlocks hK hw (Or.inl rfl) h dX4_takeJoin_19
def wX4_kindInHand (T : Bun)  (post : Int32 → Prop) : Prop :=
  wX4_isWord T 7 (fun r1 => ((r1 = 0 → wX4_isWord T 8 (fun r3 => ((r3 = 0 → wX4_isWord T 9 (fun r5 => ((r5 = 0 → wX4_isWord T 10 (fun r7 => ((r7 = 0 → wX4_isWord T 11 (fun r9 => ((r9 = 0 → wX4_isWord T 12 (fun r11 => ((r11 = 0 → post (-1 : Int32)) ∧ (¬ (r11 = 0) → post (5 : Int32))))) ∧ (¬ (r9 = 0) → post (4 : Int32))))) ∧ (¬ (r7 = 0) → post (3 : Int32))))) ∧ (¬ (r5 = 0) → post (2 : Int32))))) ∧ (¬ (r3 = 0) → post (1 : Int32))))) ∧ (¬ (r1 = 0) → post (0 : Int32))))
set_option maxRecDepth 100000 in
set_option maxHeartbeats 4000000 in
theorem kX4_kindInHand (l : Launch) (g : Gl) (aK : Nat → Nat) (aV : Nat → Nat) (q : Nat → Nat) (sz : Nat) (T : Bun)  (post : Int32 → Prop) (h : wX4_kindInHand T  post) : Met l yX4_kindInHand wsX4_kindInHand (rmm 5 107) (wPc g (E5 aK aV) ((wT g q) T) sz [.ref (q 0)]) (va_Qi (fun (r : Int32) (u : Bun) => u = T ∧ post r) (wB g (wT g q) (va_A ((wT g q) T) sz)) (va_A ((wT g q) T) sz)) 0 0 (va_A ((wT g q) T) sz) := by
  refine mstart (Qf := fun A => va_Qi (fun (r : Int32) (u : Bun) => u = T ∧ post r) (wB g (wT g q) A) A) (by decide) rfl (Nat.le_of_ble_eq_true rfl) ?_
  intro p e s m args below meth c A Q H locs ls hC hr hlocks hname hQ hA hK hE hw hl
  have hC : CallFix p m c cX4_kindInHand 1 s args wsX4_kindInHand RX4 := hC
  obtain ⟨hx, hb, -, hown, hts⟩ := id hC
  have hl : lv_has ls 1 [(0, .ref (q 0))] := hl
  rw [wX4_kindInHand] at h
  refine lv_aload_n hx hb dX4_kindInHand_0 rfl (lv_at hl 0 rfl) ?_
  refine va_ldcS hx hb hown hE.str108 dX4_kindInHand_1 ?_
  refine mcalli (w1 := (wT g q)) (va_runV (As := [.ref (aK 7)]) (rest := []) hC (kX4_isWord l g aK aV q H.size T 7 _ h) (cwV 1 hts gX4_kindInHand_X4_isWord rfl rfl rfl (by decide +kernel) ⟨Nat.le_of_ble_eq_true rfl, Nat.le_of_ble_eq_true rfl⟩) (mpreV (E5_ok aK aV) hK hE hA hw (Sub1.refl _) 0 rfl rfl) rfl rfl hl.1 rfl (lv_room (Nat.le_of_ble_eq_true rfl)) dX4_kindInHand_3 ⟨Nat.zero_le _, Nat.zero_le _⟩) hA hw (Sub1.refl _) (fun _ => Sub.whole rfl) (fun r1 u2 H locs h hw => ?_)
  obtain ⟨hu, h⟩ := h
  replace hu := hu.symm
  subst hu
  refine lv_if_eq (tgt := 11) hx hb dX4_kindInHand_6 (by decide) (fun c18 => ?_) (fun c18 => ?_)
  · replace h := h.1 c18
    refine lv_aload_n hx hb dX4_kindInHand_11 rfl (lv_at hl 0 rfl) ?_
    refine va_ldcS hx hb hown hE.str110 dX4_kindInHand_12 ?_
    refine mcalli (w1 := (wT g q)) (va_runV (As := [.ref (aK 8)]) (rest := []) hC (kX4_isWord l g aK aV q H.size T 8 _ h) (cwV 1 hts gX4_kindInHand_X4_isWord rfl rfl rfl (by decide +kernel) ⟨Nat.le_of_ble_eq_true rfl, Nat.le_of_ble_eq_true rfl⟩) (mpreV (E5_ok aK aV) hK hE hA hw (Sub1.refl _) 0 rfl rfl) rfl rfl hl.1 rfl (lv_room (Nat.le_of_ble_eq_true rfl)) dX4_kindInHand_14 ⟨Nat.zero_le _, Nat.zero_le _⟩) hA hw (Sub1.refl _) (fun _ => Sub.whole rfl) (fun r3 u4 H locs h hw => ?_)
    obtain ⟨hu, h⟩ := h
    replace hu := hu.symm
    subst hu
    refine lv_if_eq (tgt := 22) hx hb dX4_kindInHand_17 (by decide) (fun c17 => ?_) (fun c17 => ?_)
    · replace h := h.1 c17
      refine lv_aload_n hx hb dX4_kindInHand_22 rfl (lv_at hl 0 rfl) ?_
      refine va_ldcS hx hb hown hE.str112 dX4_kindInHand_23 ?_
      refine mcalli (w1 := (wT g q)) (va_runV (As := [.ref (aK 9)]) (rest := []) hC (kX4_isWord l g aK aV q H.size T 9 _ h) (cwV 1 hts gX4_kindInHand_X4_isWord rfl rfl rfl (by decide +kernel) ⟨Nat.le_of_ble_eq_true rfl, Nat.le_of_ble_eq_true rfl⟩) (mpreV (E5_ok aK aV) hK hE hA hw (Sub1.refl _) 0 rfl rfl) rfl rfl hl.1 rfl (lv_room (Nat.le_of_ble_eq_true rfl)) dX4_kindInHand_25 ⟨Nat.zero_le _, Nat.zero_le _⟩) hA hw (Sub1.refl _) (fun _ => Sub.whole rfl) (fun r5 u6 H locs h hw => ?_)
      obtain ⟨hu, h⟩ := h
      replace hu := hu.symm
      subst hu
      refine lv_if_eq (tgt := 33) hx hb dX4_kindInHand_28 (by decide) (fun c16 => ?_) (fun c16 => ?_)
      · replace h := h.1 c16
        refine lv_aload_n hx hb dX4_kindInHand_33 rfl (lv_at hl 0 rfl) ?_
        refine va_ldcS hx hb hown hE.str114 dX4_kindInHand_34 ?_
        refine mcalli (w1 := (wT g q)) (va_runV (As := [.ref (aK 10)]) (rest := []) hC (kX4_isWord l g aK aV q H.size T 10 _ h) (cwV 1 hts gX4_kindInHand_X4_isWord rfl rfl rfl (by decide +kernel) ⟨Nat.le_of_ble_eq_true rfl, Nat.le_of_ble_eq_true rfl⟩) (mpreV (E5_ok aK aV) hK hE hA hw (Sub1.refl _) 0 rfl rfl) rfl rfl hl.1 rfl (lv_room (Nat.le_of_ble_eq_true rfl)) dX4_kindInHand_36 ⟨Nat.zero_le _, Nat.zero_le _⟩) hA hw (Sub1.refl _) (fun _ => Sub.whole rfl) (fun r7 u8 H locs h hw => ?_)
        obtain ⟨hu, h⟩ := h
        replace hu := hu.symm
        subst hu
        refine lv_if_eq (tgt := 44) hx hb dX4_kindInHand_39 (by decide) (fun c15 => ?_) (fun c15 => ?_)
        · replace h := h.1 c15
          refine lv_aload_n hx hb dX4_kindInHand_44 rfl (lv_at hl 0 rfl) ?_
          refine va_ldcS hx hb hown hE.str116 dX4_kindInHand_45 ?_
          refine mcalli (w1 := (wT g q)) (va_runV (As := [.ref (aK 11)]) (rest := []) hC (kX4_isWord l g aK aV q H.size T 11 _ h) (cwV 1 hts gX4_kindInHand_X4_isWord rfl rfl rfl (by decide +kernel) ⟨Nat.le_of_ble_eq_true rfl, Nat.le_of_ble_eq_true rfl⟩) (mpreV (E5_ok aK aV) hK hE hA hw (Sub1.refl _) 0 rfl rfl) rfl rfl hl.1 rfl (lv_room (Nat.le_of_ble_eq_true rfl)) dX4_kindInHand_47 ⟨Nat.zero_le _, Nat.zero_le _⟩) hA hw (Sub1.refl _) (fun _ => Sub.whole rfl) (fun r9 u10 H locs h hw => ?_)
          obtain ⟨hu, h⟩ := h
          replace hu := hu.symm
          subst hu
          refine lv_if_eq (tgt := 55) hx hb dX4_kindInHand_50 (by decide) (fun c14 => ?_) (fun c14 => ?_)
          · replace h := h.1 c14
            refine lv_aload_n hx hb dX4_kindInHand_55 rfl (lv_at hl 0 rfl) ?_
            refine va_ldcS hx hb hown hE.str118 dX4_kindInHand_56 ?_
            refine mcalli (w1 := (wT g q)) (va_runV (As := [.ref (aK 12)]) (rest := []) hC (kX4_isWord l g aK aV q H.size T 12 _ h) (cwV 1 hts gX4_kindInHand_X4_isWord rfl rfl rfl (by decide +kernel) ⟨Nat.le_of_ble_eq_true rfl, Nat.le_of_ble_eq_true rfl⟩) (mpreV (E5_ok aK aV) hK hE hA hw (Sub1.refl _) 0 rfl rfl) rfl rfl hl.1 rfl (lv_room (Nat.le_of_ble_eq_true rfl)) dX4_kindInHand_58 ⟨Nat.zero_le _, Nat.zero_le _⟩) hA hw (Sub1.refl _) (fun _ => Sub.whole rfl) (fun r11 u12 H locs h hw => ?_)
            obtain ⟨hu, h⟩ := h
            replace hu := hu.symm
            subst hu
            refine lv_if_eq (tgt := 68) hx hb dX4_kindInHand_61 (by decide) (fun c13 => ?_) (fun c13 => ?_)
            · replace h := h.1 c13
              refine lv_iconst (v := (-1 : Int32)) hx hb dX4_kindInHand_68 (by decide) ?_
              rw [hQ]
              exact mreti (w := (wT g q)) (u := T) hC hr hlocks hK hw ⟨rfl, h⟩ dX4_kindInHand_69
            · replace h := h.2 c13
              refine lv_iconst (v := (5 : Int32)) hx hb dX4_kindInHand_64 (by decide) ?_
              refine lv_goto (tgt := 69) hx hb dX4_kindInHand_65 (by decide) ?_
              rw [hQ]
              exact mreti (w := (wT g q)) (u := T) hC hr hlocks hK hw ⟨rfl, h⟩ dX4_kindInHand_69
          · replace h := h.2 c14
            refine lv_iconst (v := (4 : Int32)) hx hb dX4_kindInHand_53 (by decide) ?_
            rw [hQ]
            exact mreti (w := (wT g q)) (u := T) hC hr hlocks hK hw ⟨rfl, h⟩ dX4_kindInHand_54
        · replace h := h.2 c15
          refine lv_iconst (v := (3 : Int32)) hx hb dX4_kindInHand_42 (by decide) ?_
          rw [hQ]
          exact mreti (w := (wT g q)) (u := T) hC hr hlocks hK hw ⟨rfl, h⟩ dX4_kindInHand_43
      · replace h := h.2 c16
        refine lv_iconst (v := (2 : Int32)) hx hb dX4_kindInHand_31 (by decide) ?_
        rw [hQ]
        exact mreti (w := (wT g q)) (u := T) hC hr hlocks hK hw ⟨rfl, h⟩ dX4_kindInHand_32
    · replace h := h.2 c17
      refine lv_iconst (v := (1 : Int32)) hx hb dX4_kindInHand_20 (by decide) ?_
      rw [hQ]
      exact mreti (w := (wT g q)) (u := T) hC hr hlocks hK hw ⟨rfl, h⟩ dX4_kindInHand_21
  · replace h := h.2 c18
    refine lv_iconst (v := (0 : Int32)) hx hb dX4_kindInHand_9 (by decide) ?_
    rw [hQ]
    exact mreti (w := (wT g q)) (u := T) hC hr hlocks hK hw ⟨rfl, h⟩ dX4_kindInHand_10
def wX4_takeTeam (T : Bun) (S : Bun) (a2 : Int32) (post : Int32 → Bun → Bun → Prop) : Prop :=
  (((S 0 1) < (6 : Int32) → wX4_takeToken T  (fun T3 => wX4_isWord T3 13 (fun r4 => wjoin (σ := Int32 × Bun) (fun z => match z with | (x6, T7) => wX1_addTeam S a2 x6 (fun r11 S13 => post (1 : Int32) T7 S13)) (fun J8 => ((r4 = 0 → J8 ((1 : Int32), T3)) ∧ (¬ (r4 = 0) → wX4_takeToken T3  (fun T16 => wX4_isNumber T16 (1 : Int32) (9 : Int32) (fun r17 => ((r17 = 0 → post (0 : Int32) T16 S) ∧ (¬ (r17 = 0) → ∀ x19 : Int32, x19 = T16 0 5 → wX4_takeToken T16  (fun T22 => J8 (x19, T22)))))))))))) ∧ (¬ ((S 0 1) < (6 : Int32)) → post (0 : Int32) T S))
set_option maxRecDepth 100000 in
set_option maxHeartbeats 4000000 in
theorem kX4_takeTeam (l : Launch) (g : Gl) (aK : Nat → Nat) (aV : Nat → Nat) (q : Nat → Nat) (q2 : Nat → Nat) (sz : Nat) (T : Bun) (S : Bun) (a2 : Int32) (post : Int32 → Bun → Bun → Prop) (h : wX4_takeTeam T S a2 post) : Met l yX4_takeTeam wsX4_takeTeam (rmm 5 107) (wPc g (E5 aK aV) ((wTP g q q2) (T, S)) sz [.ref (q 0), .ref (q2 0), .int a2]) (va_Qi (fun (r : Int32) (u : Bun × Bun) => post r u.1 u.2) (wB g (wTP g q q2) (va_A ((wTP g q q2) (T, S)) sz)) (va_A ((wTP g q q2) (T, S)) sz)) 0 0 (va_A ((wTP g q q2) (T, S)) sz) := by
  refine mstart (Qf := fun A => va_Qi (fun (r : Int32) (u : Bun × Bun) => post r u.1 u.2) (wB g (wTP g q q2) A) A) (by decide) rfl (Nat.le_of_ble_eq_true rfl) ?_
  intro p e s m args below meth c A Q H locs ls hC hr hlocks hname hQ hA hK hE hw hl
  have hC : CallFix p m c cX4_takeTeam 4 s args wsX4_takeTeam RX4 := hC
  obtain ⟨hx, hb, -, hown, hts⟩ := id hC
  have hl : lv_has ls 4 [(0, .ref (q 0)), (1, .ref (q2 0)), (2, .int a2)] := hl
  rw [wX4_takeTeam] at h
  have hinX4 : ∀ w ∈ wsX40, w ∈ wsX4_takeTeam := fun w hw9 => List.mem_cons_of_mem _ (List.mem_append_right _ hw9)
  have hinX1 : ∀ w ∈ wsX10, w ∈ wsX4_takeTeam := fun w hw9 => List.mem_cons_of_mem _ (List.mem_append_left _ (List.mem_append_right _ hw9))
  refine lv_aload_n hx hb dX4_takeTeam_0 rfl (lv_at hl 1 rfl) ?_
  refine TP_pg1 hC hinX1 hK hw hE.nFX4_99 dX4_takeTeam_1 ?_
  refine lv_bipush (v := (6 : Int32)) hx hb dX4_takeTeam_4 (by decide) ?_
  refine lv_icmp_lt (tgt := 11) hx hb dX4_takeTeam_6 (by decide) (fun c25 => ?_) (fun c25 => ?_)
  · replace h := h.1 c25
    refine lv_iconst (v := (1 : Int32)) hx hb dX4_takeTeam_11 (by decide) ?_
    refine lv_istore_n (lv' := [(3, .int (1 : Int32)), (0, .ref (q 0)), (1, .ref (q2 0)), (2, .int a2)]) hx hb dX4_takeTeam_12 rfl hl (by decide) rfl (fun ls hl => ?_)
    refine lv_aload_n hx hb dX4_takeTeam_13 rfl (lv_at hl 1 rfl) ?_
    refine mcallv (w1 := (fun u9 => (wTP g q q2) (u9, S))) (va_runV (As := []) (rest := []) hC (kX4_takeToken l g aK aV q H.size T  _ h) (cwV 0 hts gX4_takeTeam_X4_takeToken rfl rfl rfl (by decide +kernel) ⟨Nat.le_of_ble_eq_true rfl, Nat.le_of_ble_eq_true rfl⟩) (mpreV (E5_ok aK aV) hK hE hA hw (TP_wt_1 g) 0 rfl rfl) rfl rfl hl.1 rfl (lv_room (Nat.le_of_ble_eq_true rfl)) dX4_takeTeam_14 ⟨Nat.zero_le _, Nat.zero_le _⟩) hA hw (TP_wt_1 g) (fun u9 => TP_wt g u9) (fun u2 H locs h hw => ?_)
    obtain ⟨T3, rfl⟩ : ∃ z, z = u2 := ⟨_, rfl⟩
    refine lv_aload_n hx hb dX4_takeTeam_17 rfl (lv_at hl 1 rfl) ?_
    refine va_ldcS hx hb hown hE.str102 dX4_takeTeam_18 ?_
    refine mcalli (w1 := (fun u9 => (wTP g q q2) (u9, S))) (va_runV (As := [.ref (aK 13)]) (rest := []) hC (kX4_isWord l g aK aV q H.size T3 13 _ h) (cwV 1 hts gX4_takeTeam_X4_isWord rfl rfl rfl (by decide +kernel) ⟨Nat.le_of_ble_eq_true rfl, Nat.le_of_ble_eq_true rfl⟩) (mpreV (E5_ok aK aV) hK hE hA hw (TP_wt_1 g) 0 rfl rfl) rfl rfl hl.1 rfl (lv_room (Nat.le_of_ble_eq_true rfl)) dX4_takeTeam_20 ⟨Nat.zero_le _, Nat.zero_le _⟩) hA hw (TP_wt_1 g) (fun u9 => TP_wt g u9) (fun r4 u5 H locs h hw => ?_)
    obtain ⟨hu, h⟩ := h
    replace hu := hu.symm
    subst hu
    obtain ⟨J8, hJ9, h⟩ := h
    have join10 : ∀ (x6 : Int32) (T7 : Bun) (H : Heap) (locs : List Loc) (ls : Array Slot), J8 (x6, T7) → Wd g.1 A s.heap ((wTP g q q2) (T7, S)) H locs → lv_has ls 4 [(1, .ref (q2 0)), (2, .int a2), (3, .int x6)] → W p l e (rmm 5 107) s m args below meth c H locs 0 0 Q (F0 m 51 ls []) := by
      intro x6 T7 H locs ls h hw hl
      replace h := hJ9 (x6, T7) h
      refine lv_aload_n hx hb dX4_takeTeam_51 rfl (lv_at hl 0 rfl) ?_
      refine lv_iload_n hx hb dX4_takeTeam_52 rfl (lv_at hl 1 rfl) ?_
      refine lv_iload_n hx hb dX4_takeTeam_53 rfl (lv_at hl 2 rfl) ?_
      refine mcalli (w1 := (fun u9 => (wTP g q q2) (T7, u9))) (va_runVN (C := RX1) (As := [.int a2, .int x6]) (rest := []) hC (kX1_addTeam l g aK aV q2 H.size S a2 x6 _ h) ⟨va_cnB 2 hts gX4_takeTeam_X1_addTeam_n104 rfl rfl rfl hE.nMX4_104 (hts (.initialized RX1) (List.mem_of_getElem? (i := 84) rfl)) (by decide +kernel) ⟨Nat.le_of_ble_eq_true rfl, Nat.le_of_ble_eq_true rfl⟩, (hts (.instanceMethod yX1_addTeam) (List.mem_of_getElem? (i := 83) rfl)), (hts (.selects RX1 yX1_addTeam yX1_addTeam) (List.mem_of_getElem? (i := 85) rfl))⟩ (mpreV (E5_ok aK aV) hK hE hA hw (TP_wp_1 g) 0 rfl rfl) rfl rfl hl.1 rfl (lv_room (Nat.le_of_ble_eq_true rfl)) dX4_takeTeam_54 ⟨Nat.zero_le _, Nat.zero_le _⟩) hA hw (TP_wp_1 g) (fun u9 => TP_wp g u9) (fun r11 u12 H locs h hw => ?_)
      obtain ⟨S13, rfl⟩ : ∃ z, z = u12 := ⟨_, rfl⟩
      refine lv_pop hx hb dX4_takeTeam_57 rfl ?_
      refine lv_iconst (v := (1 : Int32)) hx hb dX4_takeTeam_58 (by decide) ?_
      rw [hQ]
      exact mretz (w := (wTP g q q2)) (u := (T7, S13)) hC hr hlocks hK hw (Or.inr rfl) h dX4_takeTeam_59
    refine lv_if_eq (tgt := 51) hx hb dX4_takeTeam_23 (by decide) (fun c24 => ?_) (fun c24 => ?_)
    · replace h := h.1 c24
      exact join10 (1 : Int32) T3 _ _ _ h hw (lv_sub hl [2, 3, 0] rfl)
    · replace h := h.2 c24
      refine lv_aload_n hx hb dX4_takeTeam_26 rfl (lv_at hl 1 rfl) ?_
      refine mcallv (w1 := (fun u9 => (wTP g q q2) (u9, S))) (va_runV (As := []) (rest := []) hC (kX4_takeToken l g aK aV q H.size T3  _ h) (cwV 0 hts gX4_takeTeam_X4_takeToken rfl rfl rfl (by decide +kernel) ⟨Nat.le_of_ble_eq_true rfl, Nat.le_of_ble_eq_true rfl⟩) (mpreV (E5_ok aK aV) hK hE hA hw (TP_wt_1 g) 0 rfl rfl) rfl rfl hl.1 rfl (lv_room (Nat.le_of_ble_eq_true rfl)) dX4_takeTeam_27 ⟨Nat.zero_le _, Nat.zero_le _⟩) hA hw (TP_wt_1 g) (fun u9 => TP_wt g u9) (fun u15 H locs h hw => ?_)
      obtain ⟨T16, rfl⟩ : ∃ z, z = u15 := ⟨_, rfl⟩
      refine lv_aload_n hx hb dX4_takeTeam_30 rfl (lv_at hl 1 rfl) ?_
      refine lv_iconst (v := (1 : Int32)) hx hb dX4_takeTeam_31 (by decide) ?_
      refine lv_bipush (v := (9 : Int32)) hx hb dX4_takeTeam_32 (by decide) ?_
      refine mcalli (w1 := (fun u9 => (wTP g q q2) (u9, S))) (va_runV (As := [.int (1 : Int32), .int (9 : Int32)]) (rest := []) hC (kX4_isNumber l g aK aV q H.size T16 (1 : Int32) (9 : Int32) _ h) (cwV 2 hts gX4_takeTeam_X4_isNumber rfl rfl rfl (by decide +kernel) ⟨Nat.le_of_ble_eq_true rfl, Nat.le_of_ble_eq_true rfl⟩) (mpreV (E5_ok aK aV) hK hE hA hw (TP_wt_1 g) 0 rfl rfl) rfl rfl hl.1 rfl (lv_room (Nat.le_of_ble_eq_true rfl)) dX4_takeTeam_34 ⟨Nat.zero_le _, Nat.zero_le _⟩) hA hw (TP_wt_1 g) (fun u9 => TP_wt g u9) (fun r17 u18 H locs h hw => ?_)
      obtain ⟨hu, h⟩ := h
      replace hu := hu.symm
      subst hu
      refine lv_if_ne (tgt := 42) hx hb dX4_takeTeam_37 (by decide) (fun c23 => ?_) (fun c23 => ?_)
      · replace h := h.2 c23
        refine lv_aload_n hx hb dX4_takeTeam_42 rfl (lv_at hl 1 rfl) ?_
        refine TP_tg5 hC hinX4 hK hw (List.mem_of_getElem? (i := 1) rfl) dX4_takeTeam_43 ?_
        refine lv_topi (fun x19 ex19 => ?_)
        replace h := h x19 ex19
        refine lv_istore_n (lv' := [(3, .int x19), (0, .ref (q 0)), (1, .ref (q2 0)), (2, .int a2)]) hx hb dX4_takeTeam_46 rfl hl (by decide) rfl (fun ls hl => ?_)
        refine lv_aload_n hx hb dX4_takeTeam_47 rfl (lv_at hl 1 rfl) ?_
        refine mcallv (w1 := (fun u9 => (wTP g q q2) (u9, S))) (va_runV (As := []) (rest := []) hC (kX4_takeToken l g aK aV q H.size T16  _ h) (cwV 0 hts gX4_takeTeam_X4_takeToken rfl rfl rfl (by decide +kernel) ⟨Nat.le_of_ble_eq_true rfl, Nat.le_of_ble_eq_true rfl⟩) (mpreV (E5_ok aK aV) hK hE hA hw (TP_wt_1 g) 0 rfl rfl) rfl rfl hl.1 rfl (lv_room (Nat.le_of_ble_eq_true rfl)) dX4_takeTeam_48 ⟨Nat.zero_le _, Nat.zero_le _⟩) hA hw (TP_wt_1 g) (fun u9 => TP_wt g u9) (fun u21 H locs h hw => ?_)
        obtain ⟨T22, rfl⟩ : ∃ z, z = u21 := ⟨_, rfl⟩
        exact join10 x19 T22 _ _ _ h hw (lv_sub hl [2, 3, 0] rfl)
      · replace h := h.1 c23
        refine lv_iconst (v := (0 : Int32)) hx hb dX4_takeTeam_40 (by decide) ?_
        rw [hQ]
        exact mretz (w := (wTP g q q2)) (u := (T16, S)) hC hr hlocks hK hw (Or.inl rfl) h dX4_takeTeam_41
  · replace h := h.2 c25
    refine lv_iconst (v := (0 : Int32)) hx hb dX4_takeTeam_9 (by decide) ?_
    rw [hQ]
    exact mretz (w := (wTP g q q2)) (u := (T, S)) hC hr hlocks hK hw (Or.inl rfl) h dX4_takeTeam_10
def wX4_takeItem (T : Bun) (S : Bun)  (post : Int32 → Bun → Bun → Prop) : Prop :=
  wX4_isWord T 0 (fun r1 => ((r1 = 0 → wX4_isWord T 6 (fun r3 => ((r3 = 0 → wX4_kindInHand T  (fun r5 => ((r5 < 0 → post (0 : Int32) T S) ∧ (¬ (r5 < 0) → wX4_takeTeam T S r5 (fun r7 T9 S10 => ((r7 = 0 → post (0 : Int32) T9 S10) ∧ (¬ (r7 = 0) → post (1 : Int32) T9 S10))))))) ∧ (¬ (r3 = 0) → wX4_takeJoin T S  (fun r13 T15 S16 => zb r13 ∧ post r13 T15 S16))))) ∧ (¬ (r1 = 0) → wX4_takeField T S  (fun r18 T20 S21 => zb r18 ∧ post r18 T20 S21))))
set_option maxRecDepth 100000 in
set_option maxHeartbeats 4000000 in
theorem kX4_takeItem (l : Launch) (g : Gl) (aK : Nat → Nat) (aV : Nat → Nat) (q : Nat → Nat) (q2 : Nat → Nat) (sz : Nat) (T : Bun) (S : Bun)  (post : Int32 → Bun → Bun → Prop) (h : wX4_takeItem T S  post) : Met l yX4_takeItem wsX4_takeItem (rmm 7 156) (wPc g (E5 aK aV) ((wTP g q q2) (T, S)) sz [.ref (q 0), .ref (q2 0)]) (va_Qi (fun (r : Int32) (u : Bun × Bun) => post r u.1 u.2) (wB g (wTP g q q2) (va_A ((wTP g q q2) (T, S)) sz)) (va_A ((wTP g q q2) (T, S)) sz)) 0 0 (va_A ((wTP g q q2) (T, S)) sz) := by
  refine mstart (Qf := fun A => va_Qi (fun (r : Int32) (u : Bun × Bun) => post r u.1 u.2) (wB g (wTP g q q2) A) A) (by decide) rfl (Nat.le_of_ble_eq_true rfl) ?_
  intro p e s m args below meth c A Q H locs ls hC hr hlocks hname hQ hA hK hE hw hl
  have hC : CallFix p m c cX4_takeItem 3 s args wsX4_takeItem RX4 := hC
  obtain ⟨hx, hb, -, hown, hts⟩ := id hC
  have hl : lv_has ls 3 [(0, .ref (q 0)), (1, .ref (q2 0))] := hl
  rw [wX4_takeItem] at h
  refine lv_aload_n hx hb dX4_takeItem_0 rfl (lv_at hl 0 rfl) ?_
  refine va_ldcS hx hb hown hE.str35 dX4_takeItem_1 ?_
  refine mcalli (w1 := (fun u9 => (wTP g q q2) (u9, S))) (va_runV (As := [.ref (aK 0)]) (rest := []) hC (kX4_isWord l g aK aV q H.size T 0 _ h) (cwV 1 hts gX4_takeItem_X4_isWord rfl rfl rfl (by decide +kernel) ⟨Nat.le_of_ble_eq_true rfl, Nat.le_of_ble_eq_true rfl⟩) (mpreV (E5_ok aK aV) hK hE hA hw (TP_wt_1 g) 0 rfl rfl) rfl rfl hl.1 rfl (lv_room (Nat.le_of_ble_eq_true rfl)) dX4_takeItem_3 ⟨Nat.zero_le _, Nat.zero_le _⟩) hA hw (TP_wt_1 g) (fun u9 => TP_wt g u9) (fun r1 u2 H locs h hw => ?_)
  obtain ⟨hu, h⟩ := h
  replace hu := hu.symm
  subst hu
  refine lv_if_eq (tgt := 15) hx hb dX4_takeItem_6 (by decide) (fun c22 => ?_) (fun c22 => ?_)
  · replace h := h.1 c22
    refine lv_aload_n hx hb dX4_takeItem_15 rfl (lv_at hl 0 rfl) ?_
    refine va_ldcS hx hb hown hE.str44 dX4_takeItem_16 ?_
    refine mcalli (w1 := (fun u9 => (wTP g q q2) (u9, S))) (va_runV (As := [.ref (aK 6)]) (rest := []) hC (kX4_isWord l g aK aV q H.size T 6 _ h) (cwV 1 hts gX4_takeItem_X4_isWord rfl rfl rfl (by decide +kernel) ⟨Nat.le_of_ble_eq_true rfl, Nat.le_of_ble_eq_true rfl⟩) (mpreV (E5_ok aK aV) hK hE hA hw (TP_wt_1 g) 0 rfl rfl) rfl rfl hl.1 rfl (lv_room (Nat.le_of_ble_eq_true rfl)) dX4_takeItem_18 ⟨Nat.zero_le _, Nat.zero_le _⟩) hA hw (TP_wt_1 g) (fun u9 => TP_wt g u9) (fun r3 u4 H locs h hw => ?_)
    obtain ⟨hu, h⟩ := h
    replace hu := hu.symm
    subst hu
    refine lv_if_eq (tgt := 30) hx hb dX4_takeItem_21 (by decide) (fun c17 => ?_) (fun c17 => ?_)
    · replace h := h.1 c17
      refine lv_aload_n hx hb dX4_takeItem_30 rfl (lv_at hl 0 rfl) ?_
      refine mcalli (w1 := (fun u9 => (wTP g q q2) (u9, S))) (va_runV (As := []) (rest := []) hC (kX4_kindInHand l g aK aV q H.size T  _ h) (cwV 0 hts gX4_takeItem_X4_kindInHand rfl rfl rfl (by decide +kernel) ⟨Nat.le_of_ble_eq_true rfl, Nat.le_of_ble_eq_true rfl⟩) (mpreV (E5_ok aK aV) hK hE hA hw (TP_wt_1 g) 0 rfl rfl) rfl rfl hl.1 rfl (lv_room (Nat.le_of_ble_eq_true rfl)) dX4_takeItem_31 ⟨Nat.zero_le _, Nat.zero_le _⟩) hA hw (TP_wt_1 g) (fun u9 => TP_wt g u9) (fun r5 u6 H locs h hw => ?_)
      obtain ⟨hu, h⟩ := h
      replace hu := hu.symm
      subst hu
      refine lv_istore_n (lv' := [(2, .int r5), (0, .ref (q 0)), (1, .ref (q2 0))]) hx hb dX4_takeItem_34 rfl hl (by decide) rfl (fun ls hl => ?_)
      refine lv_iload_n hx hb dX4_takeItem_35 rfl (lv_at hl 0 rfl) ?_
      refine lv_if_lt (tgt := 52) hx hb dX4_takeItem_36 (by decide) (fun c12 => ?_) (fun c12 => ?_)
      · replace h := h.1 c12
        refine lv_iconst (v := (0 : Int32)) hx hb dX4_takeItem_52 (by decide) ?_
        rw [hQ]
        exact mretz (w := (wTP g q q2)) (u := (T, S)) hC hr hlocks hK hw (Or.inl rfl) h dX4_takeItem_53
      · replace h := h.2 c12
        refine lv_aload_n hx hb dX4_takeItem_39 rfl (lv_at hl 1 rfl) ?_
        refine lv_aload_n hx hb dX4_takeItem_40 rfl (lv_at hl 2 rfl) ?_
        refine lv_iload_n hx hb dX4_takeItem_41 rfl (lv_at hl 0 rfl) ?_
        refine mcalli (w1 := (wTP g q q2)) (va_runV (As := [.ref (q2 0), .int r5]) (rest := []) hC (kX4_takeTeam l g aK aV q q2 H.size T S r5 _ h) (cwV 2 hts gX4_takeItem_X4_takeTeam rfl rfl rfl (by decide +kernel) ⟨Nat.le_of_ble_eq_true rfl, Nat.le_of_ble_eq_true rfl⟩) (mpreV (E5_ok aK aV) hK hE hA hw (Sub1.refl _) 0 rfl rfl) rfl rfl hl.1 rfl (lv_room (Nat.le_of_ble_eq_true rfl)) dX4_takeItem_42 ⟨Nat.zero_le _, Nat.zero_le _⟩) hA hw (Sub1.refl _) (fun _ => Sub.whole rfl) (fun r7 u8 H locs h hw => ?_)
        obtain ⟨T9, S10⟩ := u8
        refine lv_if_eq (tgt := 52) hx hb dX4_takeItem_45 (by decide) (fun c11 => ?_) (fun c11 => ?_)
        · replace h := h.1 c11
          refine lv_iconst (v := (0 : Int32)) hx hb dX4_takeItem_52 (by decide) ?_
          rw [hQ]
          exact mretz (w := (wTP g q q2)) (u := (T9, S10)) hC hr hlocks hK hw (Or.inl rfl) h dX4_takeItem_53
        · replace h := h.2 c11
          refine lv_iconst (v := (1 : Int32)) hx hb dX4_takeItem_48 (by decide) ?_
          refine lv_goto (tgt := 53) hx hb dX4_takeItem_49 (by decide) ?_
          rw [hQ]
          exact mretz (w := (wTP g q q2)) (u := (T9, S10)) hC hr hlocks hK hw (Or.inr rfl) h dX4_takeItem_53
    · replace h := h.2 c17
      refine lv_aload_n hx hb dX4_takeItem_24 rfl (lv_at hl 0 rfl) ?_
      refine lv_aload_n hx hb dX4_takeItem_25 rfl (lv_at hl 1 rfl) ?_
      refine mcalli (w1 := (wTP g q q2)) (va_runV (As := [.ref (q2 0)]) (rest := []) hC (kX4_takeJoin l g aK aV q q2 H.size T S  _ h) (cwV 1 hts gX4_takeItem_X4_takeJoin rfl rfl rfl (by decide +kernel) ⟨Nat.le_of_ble_eq_true rfl, Nat.le_of_ble_eq_true rfl⟩) (mpreV (E5_ok aK aV) hK hE hA hw (Sub1.refl _) 0 rfl rfl) rfl rfl hl.1 rfl (lv_room (Nat.le_of_ble_eq_true rfl)) dX4_takeItem_26 ⟨Nat.zero_le _, Nat.zero_le _⟩) hA hw (Sub1.refl _) (fun _ => Sub.whole rfl) (fun r13 u14 H locs h hw => ?_)
      obtain ⟨T15, S16⟩ := u14
      obtain ⟨hz, h⟩ := h
      rw [hQ]
      exact mretz (w := (wTP g q q2)) (u := (T15, S16)) hC hr hlocks hK hw hz h dX4_takeItem_29
  · replace h := h.2 c22
    refine lv_aload_n hx hb dX4_takeItem_9 rfl (lv_at hl 0 rfl) ?_
    refine lv_aload_n hx hb dX4_takeItem_10 rfl (lv_at hl 1 rfl) ?_
    refine mcalli (w1 := (wTP g q q2)) (va_runV (As := [.ref (q2 0)]) (rest := []) hC (kX4_takeField l g aK aV q q2 H.size T S  _ h) (cwV 1 hts gX4_takeItem_X4_takeField rfl rfl rfl (by decide +kernel) ⟨Nat.le_of_ble_eq_true rfl, Nat.le_of_ble_eq_true rfl⟩) (mpreV (E5_ok aK aV) hK hE hA hw (Sub1.refl _) 0 rfl rfl) rfl rfl hl.1 rfl (lv_room (Nat.le_of_ble_eq_true rfl)) dX4_takeItem_11 ⟨Nat.zero_le _, Nat.zero_le _⟩) hA hw (Sub1.refl _) (fun _ => Sub.whole rfl) (fun r18 u19 H locs h hw => ?_)
    obtain ⟨T20, S21⟩ := u19
    obtain ⟨hz, h⟩ := h
    rw [hQ]
    exact mretz (w := (wTP g q q2)) (u := (T20, S21)) hC hr hlocks hK hw hz h dX4_takeItem_14
def wX4_tellOnto (T : Bun) (S : Bun)  (post : Int32 → Bun → Bun → Prop) : Prop :=
  ∀ T1 : Bun, T1 = up T 0 4 (0 : Int32) → wX4_takeToken T1  (fun T4 => wloop (σ := Int32 × Bun × Bun) (fun K8 z => match z with | (x5, T6, S7) => wjoin (σ := Bun × Bun) (fun z => match z with | (T14, S15) => post ((-1 : Int32) - (T14 0 3)) T14 S15) (fun J16 => (((120 : Int32) < x5 → J16 (T6, S7)) ∧ (¬ ((120 : Int32) < x5) → wX4_takeItem T6 S7  (fun r19 T21 S22 => ((r19 = 0 → J16 (T21, S22)) ∧ (¬ (r19 = 0) → (((T21 0 2) = 0 → post x5 T21 S22) ∧ (¬ ((T21 0 2) = 0) → (((T21 0 2) = (3 : Int32) → wX4_takeToken T21  (fun T25 => ∀ x26 : Int32, x26 = x5 + (1 : Int32) → K8 (x26, T25, S22))) ∧ (¬ ((T21 0 2) = (3 : Int32)) → J16 (T21, S22)))))))))))) ((1 : Int32), T4, S))
set_option maxRecDepth 100000 in
set_option maxHeartbeats 4000000 in
theorem kX4_tellOnto (l : Launch) (g : Gl) (aK : Nat → Nat) (aV : Nat → Nat) (q : Nat → Nat) (q2 : Nat → Nat) (sz : Nat) (T : Bun) (S : Bun)  (post : Int32 → Bun → Bun → Prop) (h : wX4_tellOnto T S  post) : Met l yX4_tellOnto wsX4_tellOnto (rmm 8 178) (wPc g (E5 aK aV) ((wTP g q q2) (T, S)) sz [.ref (q 0), .ref (q2 0)]) (va_Qi (fun (r : Int32) (u : Bun × Bun) => post r u.1 u.2) (wB g (wTP g q q2) (va_A ((wTP g q q2) (T, S)) sz)) (va_A ((wTP g q q2) (T, S)) sz)) 0 0 (va_A ((wTP g q q2) (T, S)) sz) := by
  refine mstart (Qf := fun A => va_Qi (fun (r : Int32) (u : Bun × Bun) => post r u.1 u.2) (wB g (wTP g q q2) A) A) (by decide) rfl (Nat.le_of_ble_eq_true rfl) ?_
  intro p e s m args below meth c A Q H locs ls hC hr hlocks hname hQ hA hK hE hw hl
  have hC : CallFix p m c cX4_tellOnto 3 s args wsX4_tellOnto RX4 := hC
  obtain ⟨hx, hb, -, hown, hts⟩ := id hC
  have hl : lv_has ls 3 [(0, .ref (q 0)), (1, .ref (q2 0))] := hl
  rw [wX4_tellOnto] at h
  have hinX4 : ∀ w ∈ wsX40, w ∈ wsX4_tellOnto := fun w hw9 => List.mem_cons_of_mem _ (List.mem_append_left _ (List.mem_append_right _ hw9))
  refine lv_aload_n hx hb dX4_tellOnto_0 rfl (lv_at hl 0 rfl) ?_
  refine lv_iconst (v := (0 : Int32)) hx hb dX4_tellOnto_1 (by decide) ?_
  refine TP_tp4 hC hinX4 hK hw (List.mem_of_getElem? (i := 1) rfl) dX4_tellOnto_2 (fun T1 H locs eT1 hw => ?_)
  replace h := h T1 eT1
  refine lv_aload_n hx hb dX4_tellOnto_5 rfl (lv_at hl 0 rfl) ?_
  refine mcallv (w1 := (fun u9 => (wTP g q q2) (u9, S))) (va_runV (As := []) (rest := []) hC (kX4_takeToken l g aK aV q H.size T1  _ h) (cwV 0 hts gX4_tellOnto_X4_takeToken rfl rfl rfl (by decide +kernel) ⟨Nat.le_of_ble_eq_true rfl, Nat.le_of_ble_eq_true rfl⟩) (mpreV (E5_ok aK aV) hK hE hA hw (TP_wt_1 g) 0 rfl rfl) rfl rfl hl.1 rfl (lv_room (Nat.le_of_ble_eq_true rfl)) dX4_tellOnto_6 ⟨Nat.zero_le _, Nat.zero_le _⟩) hA hw (TP_wt_1 g) (fun u9 => TP_wt g u9) (fun u3 H locs h hw => ?_)
  obtain ⟨T4, rfl⟩ : ∃ z, z = u3 := ⟨_, rfl⟩
  refine lv_iconst (v := (1 : Int32)) hx hb dX4_tellOnto_9 (by decide) ?_
  refine lv_istore_n (lv' := [(2, .int (1 : Int32)), (0, .ref (q 0)), (1, .ref (q2 0))]) hx hb dX4_tellOnto_10 rfl hl (by decide) rfl (fun ls hl => ?_)
  refine h (fun z => match z with | (x5, T6, S7) => ∀ (H : Heap) (locs : List Loc) (ls : Array Slot), Wd g.1 A s.heap ((wTP g q q2) (T6, S7)) H locs → lv_has ls 3 [(0, .ref (q 0)), (1, .ref (q2 0)), (2, .int x5)] → W p l e (rmm 8 178) s m args below meth c H locs 0 0 Q (F0 m 11 ls [])) ?_ _ _ _ hw (lv_sub hl [1, 2, 0] rfl)
  clear h hw hl
  rintro ⟨x5, T6, S7⟩ h H locs ls hw hl
  refine lv_iload_n hx hb dX4_tellOnto_11 rfl (lv_at hl 2 rfl) ?_
  refine lv_bipush (v := (120 : Int32)) hx hb dX4_tellOnto_12 (by decide) ?_
  obtain ⟨J16, hJ17, h⟩ := h
  have join18 : ∀ (T14 : Bun) (S15 : Bun) (H : Heap) (locs : List Loc) (ls : Array Slot), J16 (T14, S15) → Wd g.1 A s.heap ((wTP g q q2) (T14, S15)) H locs → lv_has ls 3 [(0, .ref (q 0))] → W p l e (rmm 8 178) s m args below meth c H locs 0 0 Q (F0 m 58 ls []) := by
    intro T14 S15 H locs ls h hw hl
    replace h := hJ17 (T14, S15) h
    refine lv_iconst (v := (-1 : Int32)) hx hb dX4_tellOnto_58 (by decide) ?_
    refine lv_aload_n hx hb dX4_tellOnto_59 rfl (lv_at hl 0 rfl) ?_
    refine TP_tg3 hC hinX4 hK hw (List.mem_of_getElem? (i := 3) rfl) dX4_tellOnto_60 ?_
    refine lv_isub hx hb dX4_tellOnto_63 ?_
    rw [hQ]
    exact mreti (w := (wTP g q q2)) (u := (T14, S15)) hC hr hlocks hK hw h dX4_tellOnto_64
  refine lv_icmp_gt (tgt := 58) hx hb dX4_tellOnto_14 (by decide) (fun c31 => ?_) (fun c31 => ?_)
  · replace h := h.1 c31
    exact join18 T6 S7 _ _ _ h hw (lv_sub hl [0] rfl)
  · replace h := h.2 c31
    refine lv_aload_n hx hb dX4_tellOnto_17 rfl (lv_at hl 0 rfl) ?_
    refine lv_aload_n hx hb dX4_tellOnto_18 rfl (lv_at hl 1 rfl) ?_
    refine mcalli (w1 := (wTP g q q2)) (va_runV (As := [.ref (q2 0)]) (rest := []) hC (kX4_takeItem l g aK aV q q2 H.size T6 S7  _ h) (cwV 1 hts gX4_tellOnto_X4_takeItem rfl rfl rfl (by decide +kernel) ⟨Nat.le_of_ble_eq_true rfl, Nat.le_of_ble_eq_true rfl⟩) (mpreV (E5_ok aK aV) hK hE hA hw (Sub1.refl _) 0 rfl rfl) rfl rfl hl.1 rfl (lv_room (Nat.le_of_ble_eq_true rfl)) dX4_tellOnto_19 ⟨Nat.zero_le _, Nat.zero_le _⟩) hA hw (Sub1.refl _) (fun _ => Sub.whole rfl) (fun r19 u20 H locs h hw => ?_)
    obtain ⟨T21, S22⟩ := u20
    refine lv_if_ne (tgt := 28) hx hb dX4_tellOnto_22 (by decide) (fun c30 => ?_) (fun c30 => ?_)
    · replace h := h.2 c30
      refine lv_aload_n hx hb dX4_tellOnto_28 rfl (lv_at hl 0 rfl) ?_
      refine TP_tg2 hC hinX4 hK hw (List.mem_of_getElem? (i := 2) rfl) dX4_tellOnto_29 ?_
      refine lv_if_ne (tgt := 37) hx hb dX4_tellOnto_32 (by decide) (fun c29 => ?_) (fun c29 => ?_)
      · replace h := h.2 c29
        refine lv_aload_n hx hb dX4_tellOnto_37 rfl (lv_at hl 0 rfl) ?_
        refine TP_tg2 hC hinX4 hK hw (List.mem_of_getElem? (i := 2) rfl) dX4_tellOnto_38 ?_
        refine lv_iconst (v := (3 : Int32)) hx hb dX4_tellOnto_41 (by decide) ?_
        refine lv_icmp_eq (tgt := 48) hx hb dX4_tellOnto_42 (by decide) (fun c28 => ?_) (fun c28 => ?_)
        · replace h := h.1 c28
          refine lv_aload_n hx hb dX4_tellOnto_48 rfl (lv_at hl 0 rfl) ?_
          refine mcallv (w1 := (fun u9 => (wTP g q q2) (u9, S22))) (va_runV (As := []) (rest := []) hC (kX4_takeToken l g aK aV q H.size T21  _ h) (cwV 0 hts gX4_tellOnto_X4_takeToken rfl rfl rfl (by decide +kernel) ⟨Nat.le_of_ble_eq_true rfl, Nat.le_of_ble_eq_true rfl⟩) (mpreV (E5_ok aK aV) hK hE hA hw (TP_wt_1 g) 0 rfl rfl) rfl rfl hl.1 rfl (lv_room (Nat.le_of_ble_eq_true rfl)) dX4_tellOnto_49 ⟨Nat.zero_le _, Nat.zero_le _⟩) hA hw (TP_wt_1 g) (fun u9 => TP_wt g u9) (fun u24 H locs h hw => ?_)
          obtain ⟨T25, rfl⟩ : ∃ z, z = u24 := ⟨_, rfl⟩
          obtain ⟨x26, ex26⟩ : ∃ y : Int32, y = x5 + (1 : Int32) := ⟨_, rfl⟩
          refine lv_iinc (v := x26) (lv' := [(2, .int x26), (0, .ref (q 0)), (1, .ref (q2 0))]) hx hb dX4_tellOnto_52 hl (k := 2) rfl (by rw [ex26]; rfl) (by decide) rfl (fun ls hl => ?_)
          replace h := h x26 ex26
          refine lv_goto (tgt := 11) hx hb dX4_tellOnto_55 (by decide) ?_
          exact h _ _ _ hw (lv_sub hl [1, 2, 0] rfl)
        · replace h := h.2 c28
          refine lv_goto (tgt := 58) hx hb dX4_tellOnto_45 (by decide) ?_
          exact join18 T21 S22 _ _ _ h hw (lv_sub hl [0] rfl)
      · replace h := h.1 c29
        refine lv_iload_n hx hb dX4_tellOnto_35 rfl (lv_at hl 2 rfl) ?_
        rw [hQ]
        exact mreti (w := (wTP g q q2)) (u := (T21, S22)) hC hr hlocks hK hw h dX4_tellOnto_36
    · replace h := h.1 c30
      refine lv_goto (tgt := 58) hx hb dX4_tellOnto_25 (by decide) ?_
      exact join18 T21 S22 _ _ _ h hw (lv_sub hl [0] rfl)
def wX5_isCell  (a1 : Int32) (post : Int32 → Prop) : Prop :=
  ((a1 < 0 → post (0 : Int32)) ∧ (¬ (a1 < 0) → (((16 : Int32) ≤ a1 → post (0 : Int32)) ∧ (¬ ((16 : Int32) ≤ a1) → post (1 : Int32)))))
set_option maxRecDepth 100000 in
set_option maxHeartbeats 4000000 in
theorem kX5_isCell (l : Launch) (g : Gl) (aK : Nat → Nat) (aV : Nat → Nat)  (sz : Nat)  (a1 : Int32) (post : Int32 → Prop) (h : wX5_isCell  a1 post) : Met l yX5_isCell wsX5_isCell (rmm 0 0) (wPc g (E5 aK aV) (([] : va_W)) sz [.int a1]) (va_Qi (fun (r : Int32) (u : Unit) => u = () ∧ post r) (wB g (fun _ : Unit => ([] : va_W)) (va_A (([] : va_W)) sz)) (va_A (([] : va_W)) sz)) 0 0 (va_A (([] : va_W)) sz) := by
  refine mstart (Qf := fun A => va_Qi (fun (r : Int32) (u : Unit) => u = () ∧ post r) (wB g (fun _ : Unit => ([] : va_W)) A) A) (by decide) rfl (Nat.le_of_ble_eq_true rfl) ?_
  intro p e s m args below meth c A Q H locs ls hC hr hlocks hname hQ hA hK hE hw hl
  have hC : CallFix p m c cX5_isCell 1 s args wsX5_isCell RX5 := hC
  obtain ⟨hx, hb, -, hown, hts⟩ := id hC
  have hl : lv_has ls 1 [(0, .int a1)] := hl
  rw [wX5_isCell] at h
  refine lv_iload_n hx hb dX5_isCell_0 rfl (lv_at hl 0 rfl) ?_
  refine lv_if_lt (tgt := 14) hx hb dX5_isCell_1 (by decide) (fun c2 => ?_) (fun c2 => ?_)
  · replace h := h.1 c2
    refine lv_iconst (v := (0 : Int32)) hx hb dX5_isCell_14 (by decide) ?_
    rw [hQ]
    exact mretz (w := (fun _ : Unit => ([] : va_W))) (u := ()) hC hr hlocks hK hw (Or.inl rfl) ⟨rfl, h⟩ dX5_isCell_15
  · replace h := h.2 c2
    refine lv_iload_n hx hb dX5_isCell_4 rfl (lv_at hl 0 rfl) ?_
    refine lv_bipush (v := (16 : Int32)) hx hb dX5_isCell_5 (by decide) ?_
    refine lv_icmp_ge (tgt := 14) hx hb dX5_isCell_7 (by decide) (fun c1 => ?_) (fun c1 => ?_)
    · replace h := h.1 c1
      refine lv_iconst (v := (0 : Int32)) hx hb dX5_isCell_14 (by decide) ?_
      rw [hQ]
      exact mretz (w := (fun _ : Unit => ([] : va_W))) (u := ()) hC hr hlocks hK hw (Or.inl rfl) ⟨rfl, h⟩ dX5_isCell_15
    · replace h := h.2 c1
      refine lv_iconst (v := (1 : Int32)) hx hb dX5_isCell_10 (by decide) ?_
      refine lv_goto (tgt := 15) hx hb dX5_isCell_11 (by decide) ?_
      rw [hQ]
      exact mretz (w := (fun _ : Unit => ([] : va_W))) (u := ()) hC hr hlocks hK hw (Or.inr rfl) ⟨rfl, h⟩ dX5_isCell_15
def wX5_isSheet  (a1 : Int32) (post : Int32 → Prop) : Prop :=
  ((a1 < 0 → post (0 : Int32)) ∧ (¬ (a1 < 0) → (((4 : Int32) ≤ a1 → post (0 : Int32)) ∧ (¬ ((4 : Int32) ≤ a1) → post (1 : Int32)))))
set_option maxRecDepth 100000 in
set_option maxHeartbeats 4000000 in
theorem kX5_isSheet (l : Launch) (g : Gl) (aK : Nat → Nat) (aV : Nat → Nat)  (sz : Nat)  (a1 : Int32) (post : Int32 → Prop) (h : wX5_isSheet  a1 post) : Met l yX5_isSheet wsX5_isSheet (rmm 0 0) (wPc g (E5 aK aV) (([] : va_W)) sz [.int a1]) (va_Qi (fun (r : Int32) (u : Unit) => u = () ∧ post r) (wB g (fun _ : Unit => ([] : va_W)) (va_A (([] : va_W)) sz)) (va_A (([] : va_W)) sz)) 0 0 (va_A (([] : va_W)) sz) := by
  refine mstart (Qf := fun A => va_Qi (fun (r : Int32) (u : Unit) => u = () ∧ post r) (wB g (fun _ : Unit => ([] : va_W)) A) A) (by decide) rfl (Nat.le_of_ble_eq_true rfl) ?_
  intro p e s m args below meth c A Q H locs ls hC hr hlocks hname hQ hA hK hE hw hl
  have hC : CallFix p m c cX5_isSheet 1 s args wsX5_isSheet RX5 := hC
  obtain ⟨hx, hb, -, hown, hts⟩ := id hC
  have hl : lv_has ls 1 [(0, .int a1)] := hl
  rw [wX5_isSheet] at h
  refine lv_iload_n hx hb dX5_isSheet_0 rfl (lv_at hl 0 rfl) ?_
  refine lv_if_lt (tgt := 13) hx hb dX5_isSheet_1 (by decide) (fun c2 => ?_) (fun c2 => ?_)
  · replace h := h.1 c2
    refine lv_iconst (v := (0 : Int32)) hx hb dX5_isSheet_13 (by decide) ?_
    rw [hQ]
    exact mretz (w := (fun _ : Unit => ([] : va_W))) (u := ()) hC hr hlocks hK hw (Or.inl rfl) ⟨rfl, h⟩ dX5_isSheet_14
  · replace h := h.2 c2
    refine lv_iload_n hx hb dX5_isSheet_4 rfl (lv_at hl 0 rfl) ?_
    refine lv_iconst (v := (4 : Int32)) hx hb dX5_isSheet_5 (by decide) ?_
    refine lv_icmp_ge (tgt := 13) hx hb dX5_isSheet_6 (by decide) (fun c1 => ?_) (fun c1 => ?_)
    · replace h := h.1 c1
      refine lv_iconst (v := (0 : Int32)) hx hb dX5_isSheet_13 (by decide) ?_
      rw [hQ]
      exact mretz (w := (fun _ : Unit => ([] : va_W))) (u := ()) hC hr hlocks hK hw (Or.inl rfl) ⟨rfl, h⟩ dX5_isSheet_14
    · replace h := h.2 c1
      refine lv_iconst (v := (1 : Int32)) hx hb dX5_isSheet_9 (by decide) ?_
      refine lv_goto (tgt := 14) hx hb dX5_isSheet_10 (by decide) ?_
      rw [hQ]
      exact mretz (w := (fun _ : Unit => ([] : va_W))) (u := ()) hC hr hlocks hK hw (Or.inr rfl) ⟨rfl, h⟩ dX5_isSheet_14
def wX5_cellOf  (a1 : Int64) (post : Int32 → Prop) : Prop :=
  (((lg_cmp a1 (0 : Int64)) < 0 → post (-1 : Int32)) ∧ (¬ ((lg_cmp a1 (0 : Int64)) < 0) → ((0 ≤ (lg_cmp a1 (16 : Int64)) → post (-1 : Int32)) ∧ (¬ (0 ≤ (lg_cmp a1 (16 : Int64))) → post a1.toInt32))))
set_option maxRecDepth 100000 in
set_option maxHeartbeats 4000000 in
theorem kX5_cellOf (l : Launch) (g : Gl) (aK : Nat → Nat) (aV : Nat → Nat)  (sz : Nat)  (a1 : Int64) (post : Int32 → Prop) (h : wX5_cellOf  a1 post) : Met l yX5_cellOf wsX5_cellOf (rmm 0 0) (wPc g (E5 aK aV) (([] : va_W)) sz [.long a1]) (va_Qi (fun (r : Int32) (u : Unit) => u = () ∧ post r) (wB g (fun _ : Unit => ([] : va_W)) (va_A (([] : va_W)) sz)) (va_A (([] : va_W)) sz)) 0 0 (va_A (([] : va_W)) sz) := by
  refine mstart (Qf := fun A => va_Qi (fun (r : Int32) (u : Unit) => u = () ∧ post r) (wB g (fun _ : Unit => ([] : va_W)) A) A) (by decide) rfl (Nat.le_of_ble_eq_true rfl) ?_
  intro p e s m args below meth c A Q H locs ls hC hr hlocks hname hQ hA hK hE hw hl
  have hC : CallFix p m c cX5_cellOf 2 s args wsX5_cellOf RX5 := hC
  obtain ⟨hx, hb, -, hown, hts⟩ := id hC
  have hl : lv_has ls 2 [(0, .long a1)] := hl
  rw [wX5_cellOf] at h
  refine lv_lload_n hx hb dX5_cellOf_0 rfl (lv_at hl 0 rfl) ?_
  refine lv_lconst (v := (0 : Int64)) hx hb dX5_cellOf_1 (by decide) ?_
  refine W.lcmp hx hb dX5_cellOf_2 ?_
  refine lv_if_lt (tgt := 19) hx hb dX5_cellOf_3 (by decide) (fun c2 => ?_) (fun c2 => ?_)
  · replace h := h.1 c2
    refine lv_iconst (v := (-1 : Int32)) hx hb dX5_cellOf_19 (by decide) ?_
    rw [hQ]
    exact mreti (w := (fun _ : Unit => ([] : va_W))) (u := ()) hC hr hlocks hK hw ⟨rfl, h⟩ dX5_cellOf_20
  · replace h := h.2 c2
    refine lv_lload_n hx hb dX5_cellOf_6 rfl (lv_at hl 0 rfl) ?_
    refine lv_ldc2 (v := (16 : Int64)) hx hb hown (hts (.constantLong RX5 301 (16)) (List.mem_of_getElem? (i := 1) rfl)) dX5_cellOf_7 ?_
    refine W.lcmp hx hb dX5_cellOf_10 ?_
    refine lv_if_ge (tgt := 19) hx hb dX5_cellOf_11 (by decide) (fun c1 => ?_) (fun c1 => ?_)
    · replace h := h.1 c1
      refine lv_iconst (v := (-1 : Int32)) hx hb dX5_cellOf_19 (by decide) ?_
      rw [hQ]
      exact mreti (w := (fun _ : Unit => ([] : va_W))) (u := ()) hC hr hlocks hK hw ⟨rfl, h⟩ dX5_cellOf_20
    · replace h := h.2 c1
      refine lv_lload_n hx hb dX5_cellOf_14 rfl (lv_at hl 0 rfl) ?_
      refine lv_l2i (v := a1.toInt32) hx hb dX5_cellOf_15 rfl ?_
      refine lv_goto (tgt := 20) hx hb dX5_cellOf_16 (by decide) ?_
      rw [hQ]
      exact mreti (w := (fun _ : Unit => ([] : va_W))) (u := ()) hC hr hlocks hK hw ⟨rfl, h⟩ dX5_cellOf_20
def wX5_directionTo  (a1 : Int32) (a2 : Int32) (post : Int32 → Prop) : Prop :=
  wloop (σ := Int32) (fun K2 x1 => (((4 : Int32) ≤ x1 → post (-1 : Int32)) ∧ (¬ ((4 : Int32) ≤ x1) → wX5_cellTowards a1 x1 (fun r8 => ((r8 = a2 → post x1) ∧ (¬ (r8 = a2) → ∀ x10 : Int32, x10 = x1 + (1 : Int32) → K2 x10)))))) (0 : Int32)
set_option maxRecDepth 100000 in
set_option maxHeartbeats 4000000 in
theorem kX5_directionTo (l : Launch) (g : Gl) (aK : Nat → Nat) (aV : Nat → Nat)  (sz : Nat)  (a1 : Int32) (a2 : Int32) (post : Int32 → Prop) (h : wX5_directionTo  a1 a2 post) : Met l yX5_directionTo wsX5_directionTo (rmm 1 21) (wPc g (E5 aK aV) (([] : va_W)) sz [.int a1, .int a2]) (va_Qi (fun (r : Int32) (u : Unit) => u = () ∧ post r) (wB g (fun _ : Unit => ([] : va_W)) (va_A (([] : va_W)) sz)) (va_A (([] : va_W)) sz)) 0 0 (va_A (([] : va_W)) sz) := by
  refine mstart (Qf := fun A => va_Qi (fun (r : Int32) (u : Unit) => u = () ∧ post r) (wB g (fun _ : Unit => ([] : va_W)) A) A) (by decide) rfl (Nat.le_of_ble_eq_true rfl) ?_
  intro p e s m args below meth c A Q H locs ls hC hr hlocks hname hQ hA hK hE hw hl
  have hC : CallFix p m c cX5_directionTo 3 s args wsX5_directionTo RX5 := hC
  obtain ⟨hx, hb, -, hown, hts⟩ := id hC
  have hl : lv_has ls 3 [(0, .int a1), (1, .int a2)] := hl
  rw [wX5_directionTo] at h
  refine lv_iconst (v := (0 : Int32)) hx hb dX5_directionTo_0 (by decide) ?_
  refine lv_istore_n (lv' := [(2, .int (0 : Int32)), (0, .int a1), (1, .int a2)]) hx hb dX5_directionTo_1 rfl hl (by decide) rfl (fun ls hl => ?_)
  refine h (fun x1 => ∀ (H : Heap) (locs : List Loc) (ls : Array Slot), Wd g.1 A s.heap (([] : va_W)) H locs → lv_has ls 3 [(0, .int a1), (1, .int a2), (2, .int x1)] → W p l e (rmm 1 21) s m args below meth c H locs 0 0 Q (F0 m 2 ls [])) ?_ _ _ _ hw (lv_sub hl [1, 2, 0] rfl)
  clear h hw hl
  rintro x1 h H locs ls hw hl
  refine lv_iload_n hx hb dX5_directionTo_2 rfl (lv_at hl 2 rfl) ?_
  refine lv_iconst (v := (4 : Int32)) hx hb dX5_directionTo_3 (by decide) ?_
  refine lv_icmp_ge (tgt := 24) hx hb dX5_directionTo_4 (by decide) (fun c13 => ?_) (fun c13 => ?_)
  · replace h := h.1 c13
    refine lv_iconst (v := (-1 : Int32)) hx hb dX5_directionTo_24 (by decide) ?_
    rw [hQ]
    exact mreti (w := (fun _ : Unit => ([] : va_W))) (u := ()) hC hr hlocks hK hw ⟨rfl, h⟩ dX5_directionTo_25
  · replace h := h.2 c13
    refine lv_iload_n hx hb dX5_directionTo_7 rfl (lv_at hl 0 rfl) ?_
    refine lv_iload_n hx hb dX5_directionTo_8 rfl (lv_at hl 2 rfl) ?_
    refine mcalli (w1 := (fun _ => ([] : va_W))) (wc := fun _ : Unit => ([] : va_W)) (u := ()) (va_runS (As := [.int a1, .int x1]) (rest := []) hC (kX5_cellTowards l g aK aV H.size a1 x1 _ h) (va_cwS 2 hts gX5_directionTo_X5_cellTowards rfl rfl rfl (by decide +kernel) ⟨Nat.le_of_ble_eq_true rfl, Nat.le_of_ble_eq_true rfl⟩) (mpre (E5_ok aK aV) hK hE hA hw (Sub1.nil _)) rfl rfl hl.1 rfl (lv_room (Nat.le_of_ble_eq_true rfl)) dX5_directionTo_9 ⟨Nat.zero_le _, Nat.zero_le _⟩) hA hw (Sub1.nil _) (fun _ => Sub.nil _) (fun r8 u9 H locs h hw => ?_)
    obtain ⟨_, h⟩ := h
    refine lv_iload_n hx hb dX5_directionTo_12 rfl (lv_at hl 1 rfl) ?_
    refine lv_icmp_ne (tgt := 18) hx hb dX5_directionTo_13 (by decide) (fun c12 => ?_) (fun c12 => ?_)
    · replace h := h.2 c12
      obtain ⟨x10, ex10⟩ : ∃ y : Int32, y = x1 + (1 : Int32) := ⟨_, rfl⟩
      refine lv_iinc (v := x10) (lv' := [(2, .int x10), (0, .int a1), (1, .int a2)]) hx hb dX5_directionTo_18 hl (k := 2) rfl (by rw [ex10]; rfl) (by decide) rfl (fun ls hl => ?_)
      replace h := h x10 ex10
      refine lv_goto (tgt := 2) hx hb dX5_directionTo_21 (by decide) ?_
      exact h _ _ _ hw (lv_sub hl [1, 2, 0] rfl)
    · replace h := h.1 c12
      refine lv_iload_n hx hb dX5_directionTo_16 rfl (lv_at hl 2 rfl) ?_
      rw [hQ]
      exact mreti (w := (fun _ : Unit => ([] : va_W))) (u := ()) hC hr hlocks hK hw ⟨rfl, h⟩ dX5_directionTo_17
def wX5_isKind  (a1 : Int32) (post : Int32 → Prop) : Prop :=
  ((a1 < 0 → post (0 : Int32)) ∧ (¬ (a1 < 0) → (((6 : Int32) ≤ a1 → post (0 : Int32)) ∧ (¬ ((6 : Int32) ≤ a1) → post (1 : Int32)))))
set_option maxRecDepth 100000 in
set_option maxHeartbeats 4000000 in
theorem kX5_isKind (l : Launch) (g : Gl) (aK : Nat → Nat) (aV : Nat → Nat)  (sz : Nat)  (a1 : Int32) (post : Int32 → Prop) (h : wX5_isKind  a1 post) : Met l yX5_isKind wsX5_isKind (rmm 0 0) (wPc g (E5 aK aV) (([] : va_W)) sz [.int a1]) (va_Qi (fun (r : Int32) (u : Unit) => u = () ∧ post r) (wB g (fun _ : Unit => ([] : va_W)) (va_A (([] : va_W)) sz)) (va_A (([] : va_W)) sz)) 0 0 (va_A (([] : va_W)) sz) := by
  refine mstart (Qf := fun A => va_Qi (fun (r : Int32) (u : Unit) => u = () ∧ post r) (wB g (fun _ : Unit => ([] : va_W)) A) A) (by decide) rfl (Nat.le_of_ble_eq_true rfl) ?_
  intro p e s m args below meth c A Q H locs ls hC hr hlocks hname hQ hA hK hE hw hl
  have hC : CallFix p m c cX5_isKind 1 s args wsX5_isKind RX5 := hC
  obtain ⟨hx, hb, -, hown, hts⟩ := id hC
  have hl : lv_has ls 1 [(0, .int a1)] := hl
  rw [wX5_isKind] at h
  refine lv_iload_n hx hb dX5_isKind_0 rfl (lv_at hl 0 rfl) ?_
  refine lv_if_lt (tgt := 14) hx hb dX5_isKind_1 (by decide) (fun c2 => ?_) (fun c2 => ?_)
  · replace h := h.1 c2
    refine lv_iconst (v := (0 : Int32)) hx hb dX5_isKind_14 (by decide) ?_
    rw [hQ]
    exact mretz (w := (fun _ : Unit => ([] : va_W))) (u := ()) hC hr hlocks hK hw (Or.inl rfl) ⟨rfl, h⟩ dX5_isKind_15
  · replace h := h.2 c2
    refine lv_iload_n hx hb dX5_isKind_4 rfl (lv_at hl 0 rfl) ?_
    refine lv_bipush (v := (6 : Int32)) hx hb dX5_isKind_5 (by decide) ?_
    refine lv_icmp_ge (tgt := 14) hx hb dX5_isKind_7 (by decide) (fun c1 => ?_) (fun c1 => ?_)
    · replace h := h.1 c1
      refine lv_iconst (v := (0 : Int32)) hx hb dX5_isKind_14 (by decide) ?_
      rw [hQ]
      exact mretz (w := (fun _ : Unit => ([] : va_W))) (u := ()) hC hr hlocks hK hw (Or.inl rfl) ⟨rfl, h⟩ dX5_isKind_15
    · replace h := h.2 c1
      refine lv_iconst (v := (1 : Int32)) hx hb dX5_isKind_10 (by decide) ?_
      refine lv_goto (tgt := 15) hx hb dX5_isKind_11 (by decide) ?_
      rw [hQ]
      exact mretz (w := (fun _ : Unit => ([] : va_W))) (u := ()) hC hr hlocks hK hw (Or.inr rfl) ⟨rfl, h⟩ dX5_isKind_15
def wX5_isPace  (a1 : Int32) (post : Int32 → Prop) : Prop :=
  ((a1 < (1 : Int32) → post (0 : Int32)) ∧ (¬ (a1 < (1 : Int32)) → (((9 : Int32) < a1 → post (0 : Int32)) ∧ (¬ ((9 : Int32) < a1) → post (1 : Int32)))))
set_option maxRecDepth 100000 in
set_option maxHeartbeats 4000000 in
theorem kX5_isPace (l : Launch) (g : Gl) (aK : Nat → Nat) (aV : Nat → Nat)  (sz : Nat)  (a1 : Int32) (post : Int32 → Prop) (h : wX5_isPace  a1 post) : Met l yX5_isPace wsX5_isPace (rmm 0 0) (wPc g (E5 aK aV) (([] : va_W)) sz [.int a1]) (va_Qi (fun (r : Int32) (u : Unit) => u = () ∧ post r) (wB g (fun _ : Unit => ([] : va_W)) (va_A (([] : va_W)) sz)) (va_A (([] : va_W)) sz)) 0 0 (va_A (([] : va_W)) sz) := by
  refine mstart (Qf := fun A => va_Qi (fun (r : Int32) (u : Unit) => u = () ∧ post r) (wB g (fun _ : Unit => ([] : va_W)) A) A) (by decide) rfl (Nat.le_of_ble_eq_true rfl) ?_
  intro p e s m args below meth c A Q H locs ls hC hr hlocks hname hQ hA hK hE hw hl
  have hC : CallFix p m c cX5_isPace 1 s args wsX5_isPace RX5 := hC
  obtain ⟨hx, hb, -, hown, hts⟩ := id hC
  have hl : lv_has ls 1 [(0, .int a1)] := hl
  rw [wX5_isPace] at h
  refine lv_iload_n hx hb dX5_isPace_0 rfl (lv_at hl 0 rfl) ?_
  refine lv_iconst (v := (1 : Int32)) hx hb dX5_isPace_1 (by decide) ?_
  refine lv_icmp_lt (tgt := 15) hx hb dX5_isPace_2 (by decide) (fun c2 => ?_) (fun c2 => ?_)
  · replace h := h.1 c2
    refine lv_iconst (v := (0 : Int32)) hx hb dX5_isPace_15 (by decide) ?_
    rw [hQ]
    exact mretz (w := (fun _ : Unit => ([] : va_W))) (u := ()) hC hr hlocks hK hw (Or.inl rfl) ⟨rfl, h⟩ dX5_isPace_16
  · replace h := h.2 c2
    refine lv_iload_n hx hb dX5_isPace_5 rfl (lv_at hl 0 rfl) ?_
    refine lv_bipush (v := (9 : Int32)) hx hb dX5_isPace_6 (by decide) ?_
    refine lv_icmp_gt (tgt := 15) hx hb dX5_isPace_8 (by decide) (fun c1 => ?_) (fun c1 => ?_)
    · replace h := h.1 c1
      refine lv_iconst (v := (0 : Int32)) hx hb dX5_isPace_15 (by decide) ?_
      rw [hQ]
      exact mretz (w := (fun _ : Unit => ([] : va_W))) (u := ()) hC hr hlocks hK hw (Or.inl rfl) ⟨rfl, h⟩ dX5_isPace_16
    · replace h := h.2 c1
      refine lv_iconst (v := (1 : Int32)) hx hb dX5_isPace_11 (by decide) ?_
      refine lv_goto (tgt := 16) hx hb dX5_isPace_12 (by decide) ?_
      rw [hQ]
      exact mretz (w := (fun _ : Unit => ([] : va_W))) (u := ()) hC hr hlocks hK hw (Or.inr rfl) ⟨rfl, h⟩ dX5_isPace_16
