/-! TEXTS: the JDK's own members over the class's literals; a literal is its place i < 14 -/
section
variable {p : Program} {l : Launch} {e : Env} {R : Room} {s : State} {m : MethodId} {args : Array Value} {below : List Frame} {meth : Method} {c : Code} {H : Heap} {locs : List Loc} {Q : State → Prop} {cc : ByteArray} {pc nL : Nat} {ls : Array Slot} {rest : List Value} {A : Nat → Prop} {Ts : List Cond} {own : String} {g : Gl} {ws : va_W} {aK aV : Nat → Nat}
theorem mretn {S : Type} {w : S → va_W} {post : Int32 → S → Prop} {u : S} {v : Int32} {ty : FieldType} (hC : CallFix p m c cc nL s args Ts own) (hr : meth.sig.returnType = some ty) (hlocks : meth.locks = false) (hK : va_K g.1 vwCl (tysG g.2) s) (hw : Wd g.1 A s.heap (w u) H locs) (hn : narrow ty (.int v) = .int v) (hp : post v u) (hdg : decode cc pc = .ok (.ireturn, 1)) : W p l e R s m args below meth c H locs 0 0 (MQ below (va_Qi post (wB g w A) A) args s 0 0 A) (F0 m pc ls [.int v]) :=
  W.zret (v := v) hC.1 hC.2.1 hr hn (fun t ht hW => ⟨⟨v, u, rfl, hp, by rw [ht]; exact hw.1, va_K.moved hW.alike hK, hw.2.1⟩, hw.2.2.F ht⟩) hw.2.2.2.2 hdg
theorem mpreStr {As : List Value} {i : Nat} (hEo : EnvOk (E5 aK aV)) (hK : va_K g.1 vwCl (tysG g.2) s) (hE : E5 aK aV A s) (hA : ∀ q, s.heap.size ≤ q → A q) (hw : Wd g.1 A s.heap ws H locs) (hi : i < 14) : PreV s H RJ0 (aK i) (wPc g (E5 aK aV) [] H.size (.ref (aK i) :: As)) As := by
  have h := mpre (av := .ref (aK i) :: As) hEo hK hE hA hw (Sub1.nil _)
  exact ⟨h.1, vk_recv hE.strS hi hw.2.2, h.2⟩
end
theorem js_len : ∀ i, i < 14 → nI (lenJS.getD i 0) >>> ((0 : Int32) &&& 31) = nI (lenJS.getD i 0) := by decide +kernel
theorem js_len_lt : ∀ i, i < 14 → lenJS.getD i 0 < 7 := by decide +kernel
theorem js_chr : ∀ i, i < 14 → ∀ k, k < lenJS.getD i 0 → ((((bytJS.getD i []).getD k 0) &&& 255).toUInt32 % 65536).toInt32 = (bytJS.getD i []).getD k 0 := by decide +kernel
theorem js_nar : ∀ i, i < 14 → ∀ k, k < lenJS.getD i 0 → narrow .char (.int ((bytJS.getD i []).getD k 0)) = .int ((bytJS.getD i []).getD k 0) := by decide +kernel

set_option maxRecDepth 100000 in
set_option maxHeartbeats 4000000 in
theorem kJ0_coder_7d493 (l : Launch) (g : Gl) (aK : Nat → Nat) (aV : Nat → Nat) (sz : Nat) (i : Nat) (post : Int32 → Prop) (h : i < 14 ∧ post 0) : Met l yJ0_coder_7d493 wsJ0_coder_7d493 (rmm 0 0) (wPc g (E5 aK aV) ([] : va_W) sz [.ref (aK i)]) (va_Qi (fun (r : Int32) (u : Unit) => u = () ∧ post r) (wB g (fun _ : Unit => ([] : va_W)) (va_A ([] : va_W) sz)) (va_A ([] : va_W) sz)) 0 0 (va_A ([] : va_W) sz) := by
  refine mstart (Qf := fun A => va_Qi (fun (r : Int32) (u : Unit) => u = () ∧ post r) (wB g (fun _ : Unit => ([] : va_W)) A) A) (by decide) rfl (Nat.le_of_ble_eq_true rfl) ?_
  intro p e s m args below meth c A Q H locs ls hC hr hlocks hname hQ hA hK hE hw hl
  have hC : CallFix p m c cJ0_coder_7d493 1 s args wsJ0_coder_7d493 RJ0 := hC
  obtain ⟨hx, hb, -, hown, hts⟩ := id hC
  have hl : lv_has ls 1 [(0, .ref (aK i))] := hl
  obtain ⟨hi, h⟩ := h
  refine va_gets hx hb hE.compact hw.2.2 hown (hts (.fieldLink RJ0 38 "java/lang/String" "COMPACT_STRINGS" "Z") (List.mem_of_getElem? (i := 1) rfl)) (fun _ h9 => h9) dJ0_coder_7d493_0 ?_
  refine lv_if_eq (tgt := 13) hx hb dJ0_coder_7d493_3 (by decide) (fun c => absurd c (by decide)) (fun c => ?_)
  refine lv_aload_n hx hb dJ0_coder_7d493_6 rfl (lv_at hl 0 rfl) ?_
  refine vk_getf hx hb (hE.strS.1 i hi).2.1 hw.2.2 hown (hts (.fieldLink RJ0 15 "java/lang/String" "coder" "B") (List.mem_of_getElem? (i := 2) rfl)) (fun _ h9 => h9) dJ0_coder_7d493_7 ?_
  refine lv_goto (tgt := 14) hx hb dJ0_coder_7d493_10 (by decide) ?_
  rw [hQ]
  exact mretn (w := (fun _ : Unit => ([] : va_W))) (u := ()) hC hr hlocks hK hw rfl ⟨rfl, h⟩ dJ0_coder_7d493_14
set_option maxRecDepth 100000 in
set_option maxHeartbeats 4000000 in
theorem kJ0_isLatin1_aae02 (l : Launch) (g : Gl) (aK : Nat → Nat) (aV : Nat → Nat) (sz : Nat) (i : Nat) (post : Int32 → Prop) (h : i < 14 ∧ post 1) : Met l yJ0_isLatin1_aae02 wsJ0_isLatin1_aae02 (rmm 0 0) (wPc g (E5 aK aV) ([] : va_W) sz [.ref (aK i)]) (va_Qi (fun (r : Int32) (u : Unit) => u = () ∧ post r) (wB g (fun _ : Unit => ([] : va_W)) (va_A ([] : va_W) sz)) (va_A ([] : va_W) sz)) 0 0 (va_A ([] : va_W) sz) := by
  refine mstart (Qf := fun A => va_Qi (fun (r : Int32) (u : Unit) => u = () ∧ post r) (wB g (fun _ : Unit => ([] : va_W)) A) A) (by decide) rfl (Nat.le_of_ble_eq_true rfl) ?_
  intro p e s m args below meth c A Q H locs ls hC hr hlocks hname hQ hA hK hE hw hl
  have hC : CallFix p m c cJ0_isLatin1_aae02 1 s args wsJ0_isLatin1_aae02 RJ0 := hC
  obtain ⟨hx, hb, -, hown, hts⟩ := id hC
  have hl : lv_has ls 1 [(0, .ref (aK i))] := hl
  obtain ⟨hi, h⟩ := h
  refine va_gets hx hb hE.compact hw.2.2 hown (hts (.fieldLink RJ0 38 "java/lang/String" "COMPACT_STRINGS" "Z") (List.mem_of_getElem? (i := 1) rfl)) (fun _ h9 => h9) dJ0_isLatin1_aae02_0 ?_
  refine lv_if_eq (tgt := 17) hx hb dJ0_isLatin1_aae02_3 (by decide) (fun c => absurd c (by decide)) (fun c => ?_)
  refine lv_aload_n hx hb dJ0_isLatin1_aae02_6 rfl (lv_at hl 0 rfl) ?_
  refine vk_getf hx hb (hE.strS.1 i hi).2.1 hw.2.2 hown (hts (.fieldLink RJ0 15 "java/lang/String" "coder" "B") (List.mem_of_getElem? (i := 2) rfl)) (fun _ h9 => h9) dJ0_isLatin1_aae02_7 ?_
  refine lv_if_ne (tgt := 17) hx hb dJ0_isLatin1_aae02_10 (by decide) (fun c => absurd rfl c) (fun c => ?_)
  refine lv_iconst (v := 1) hx hb dJ0_isLatin1_aae02_13 (by decide) ?_
  refine lv_goto (tgt := 18) hx hb dJ0_isLatin1_aae02_14 (by decide) ?_
  rw [hQ]
  exact mretz (w := (fun _ : Unit => ([] : va_W))) (u := ()) hC hr hlocks hK hw (Or.inr rfl) ⟨rfl, h⟩ dJ0_isLatin1_aae02_18
def wJ0_length_8abf5 (i : Nat) (post : Int32 → Prop) : Prop := i < 14 ∧ post (nI (lenJS.getD i 0))
set_option maxRecDepth 100000 in
set_option maxHeartbeats 4000000 in
theorem kJ0_length_8abf5 (l : Launch) (g : Gl) (aK : Nat → Nat) (aV : Nat → Nat) (sz : Nat) (i : Nat) (post : Int32 → Prop) (h : wJ0_length_8abf5 i post) : Met l yJ0_length_8abf5 wsJ0_length_8abf5 (rmm 1 20) (wPc g (E5 aK aV) ([] : va_W) sz [.ref (aK i)]) (va_Qi (fun (r : Int32) (u : Unit) => u = () ∧ post r) (wB g (fun _ : Unit => ([] : va_W)) (va_A ([] : va_W) sz)) (va_A ([] : va_W) sz)) 0 0 (va_A ([] : va_W) sz) := by
  refine mstart (Qf := fun A => va_Qi (fun (r : Int32) (u : Unit) => u = () ∧ post r) (wB g (fun _ : Unit => ([] : va_W)) A) A) (by decide) rfl (Nat.le_of_ble_eq_true rfl) ?_
  intro p e s m args below meth c A Q H locs ls hC hr hlocks hname hQ hA hK hE hw hl
  have hC : CallFix p m c cJ0_length_8abf5 1 s args wsJ0_length_8abf5 RJ0 := hC
  obtain ⟨hx, hb, -, hown, hts⟩ := id hC
  have hl : lv_has ls 1 [(0, .ref (aK i))] := hl
  obtain ⟨hi, h⟩ := h
  refine lv_aload_n hx hb dJ0_length_8abf5_0 rfl (lv_at hl 0 rfl) ?_
  refine vk_getf hx hb (hE.strS.1 i hi).2.2.1 hw.2.2 hown (hts (.fieldLink RJ0 9 "java/lang/String" "value" "[B") (List.mem_of_getElem? (i := 1) rfl)) (fun _ h9 => h9) dJ0_length_8abf5_1 ?_
  refine va_tlen hx hb (hE.strS.1 i hi).2.2.2 hw.2.2 (v := nI (lenJS.getD i 0)) rfl dJ0_length_8abf5_4 ?_
  refine lv_aload_n hx hb dJ0_length_8abf5_5 rfl (lv_at hl 0 rfl) ?_
  refine mcalli (w1 := (fun _ => ([] : va_W))) (wc := fun _ : Unit => ([] : va_W)) (u := ()) (va_runV (As := []) (rest := [.int (nI (lenJS.getD i 0))]) hC (kJ0_coder_7d493 l g aK aV H.size i (fun r => r = 0) ⟨hi, rfl⟩) (cwV 0 hts gJ0_length_8abf5_J0_coder_7d493 rfl rfl rfl (by decide +kernel) ⟨Nat.le_of_ble_eq_true rfl, Nat.le_of_ble_eq_true rfl⟩) (mpreStr (E5_ok aK aV) hK hE hA hw hi) rfl rfl hl.1 rfl (lv_room (Nat.le_of_ble_eq_true rfl)) dJ0_length_8abf5_6 ⟨Nat.zero_le _, Nat.zero_le _⟩) hA hw (Sub1.nil _) (fun _ => Sub.nil _) (fun r u H locs h2 hw => ?_)
  obtain ⟨_, rfl⟩ := h2
  refine lv_ishr hx hb dJ0_length_8abf5_9 ?_
  rw [hQ]
  exact mreti (w := (fun _ : Unit => ([] : va_W))) (u := ()) hC hr hlocks hK hw ⟨rfl, by rw [js_len i hi]; exact h⟩ dJ0_length_8abf5_10
set_option maxRecDepth 100000 in
set_option maxHeartbeats 4000000 in
theorem kJ3_checkIndex_8e157 (l : Launch) (g : Gl) (aK : Nat → Nat) (aV : Nat → Nat) (sz : Nat) (a1 a2 : Int32) (v : Value) (hv : v = .null ∨ ∃ t, v = .ref t) (post : Int32 → Prop) (h : ¬ a1 < 0 ∧ a1 < a2 ∧ post a1) : Met l yJ3_checkIndex_8e157 wsJ3_checkIndex_8e157 (rmm 0 0) (wPc g (E5 aK aV) ([] : va_W) sz [.int a1, .int a2, v]) (va_Qi (fun (r : Int32) (u : Unit) => u = () ∧ post r) (wB g (fun _ : Unit => ([] : va_W)) (va_A ([] : va_W) sz)) (va_A ([] : va_W) sz)) 0 0 (va_A ([] : va_W) sz) := by
  rcases hv with rfl | ⟨t, rfl⟩
  · refine mstart (Qf := fun A => va_Qi (fun (r : Int32) (u : Unit) => u = () ∧ post r) (wB g (fun _ : Unit => ([] : va_W)) A) A) (by decide) rfl (Nat.le_of_ble_eq_true rfl) ?_
    intro p e s m args below meth c A Q H locs ls hC hr hlocks hname hQ hA hK hE hw hl
    have hC : CallFix p m c cJ3_checkIndex_8e157 3 s args wsJ3_checkIndex_8e157 RJ3 := hC
    obtain ⟨hx, hb, -, hown, hts⟩ := id hC
    have hl : lv_has ls 3 [(0, .int a1), (1, .int a2), (2, _)] := hl
    obtain ⟨h1, h2, h⟩ := h
    refine lv_iload_n hx hb dJ3_checkIndex_8e157_0 rfl (lv_at hl 0 rfl) ?_
    refine lv_if_lt (tgt := 9) hx hb dJ3_checkIndex_8e157_1 (by decide) (fun c => absurd c h1) (fun c => ?_)
    refine lv_iload_n hx hb dJ3_checkIndex_8e157_4 rfl (lv_at hl 0 rfl) ?_
    refine lv_iload_n hx hb dJ3_checkIndex_8e157_5 rfl (lv_at hl 1 rfl) ?_
    refine lv_icmp_lt (tgt := 16) hx hb dJ3_checkIndex_8e157_6 (by decide) (fun c => ?_) (fun c => absurd h2 c)
    refine lv_iload_n hx hb dJ3_checkIndex_8e157_16 rfl (lv_at hl 0 rfl) ?_
    rw [hQ]
    exact mreti (w := (fun _ : Unit => ([] : va_W))) (u := ()) hC hr hlocks hK hw ⟨rfl, h⟩ dJ3_checkIndex_8e157_17
  · refine mstart (Qf := fun A => va_Qi (fun (r : Int32) (u : Unit) => u = () ∧ post r) (wB g (fun _ : Unit => ([] : va_W)) A) A) (by decide) rfl (Nat.le_of_ble_eq_true rfl) ?_
    intro p e s m args below meth c A Q H locs ls hC hr hlocks hname hQ hA hK hE hw hl
    have hC : CallFix p m c cJ3_checkIndex_8e157 3 s args wsJ3_checkIndex_8e157 RJ3 := hC
    obtain ⟨hx, hb, -, hown, hts⟩ := id hC
    have hl : lv_has ls 3 [(0, .int a1), (1, .int a2), (2, _)] := hl
    obtain ⟨h1, h2, h⟩ := h
    refine lv_iload_n hx hb dJ3_checkIndex_8e157_0 rfl (lv_at hl 0 rfl) ?_
    refine lv_if_lt (tgt := 9) hx hb dJ3_checkIndex_8e157_1 (by decide) (fun c => absurd c h1) (fun c => ?_)
    refine lv_iload_n hx hb dJ3_checkIndex_8e157_4 rfl (lv_at hl 0 rfl) ?_
    refine lv_iload_n hx hb dJ3_checkIndex_8e157_5 rfl (lv_at hl 1 rfl) ?_
    refine lv_icmp_lt (tgt := 16) hx hb dJ3_checkIndex_8e157_6 (by decide) (fun c => ?_) (fun c => absurd h2 c)
    refine lv_iload_n hx hb dJ3_checkIndex_8e157_16 rfl (lv_at hl 0 rfl) ?_
    rw [hQ]
    exact mreti (w := (fun _ : Unit => ([] : va_W))) (u := ()) hC hr hlocks hK hw ⟨rfl, h⟩ dJ3_checkIndex_8e157_17
set_option maxRecDepth 100000 in
set_option maxHeartbeats 4000000 in
theorem kJ0_checkIndex_df160 (l : Launch) (g : Gl) (aK : Nat → Nat) (aV : Nat → Nat) (sz : Nat) (a1 a2 : Int32) (post : Prop) (h : ¬ a1 < 0 ∧ a1 < a2 ∧ post) : Met l yJ0_checkIndex_df160 wsJ0_checkIndex_df160 (rmm 1 22) (wPc g (E5 aK aV) ([] : va_W) sz [.int a1, .int a2]) (va_Qv (fun (u : Unit) => u = () ∧ post) (wB g (fun _ : Unit => ([] : va_W)) (va_A ([] : va_W) sz)) (va_A ([] : va_W) sz)) 0 0 (va_A ([] : va_W) sz) := by
  refine mstart (Qf := fun A => va_Qv (fun (u : Unit) => u = () ∧ post) (wB g (fun _ : Unit => ([] : va_W)) A) A) (by decide) rfl (Nat.le_of_ble_eq_true rfl) ?_
  intro p e s m args below meth c A Q H locs ls hC hr hlocks hname hQ hA hK hE hw hl
  have hC : CallFix p m c cJ0_checkIndex_df160 2 s args wsJ0_checkIndex_df160 RJ0 := hC
  obtain ⟨hx, hb, -, hown, hts⟩ := id hC
  have hl : lv_has ls 2 [(0, .int a1), (1, .int a2)] := hl
  obtain ⟨h1, h2, h⟩ := h
  refine lv_iload_n hx hb dJ0_checkIndex_df160_0 rfl (lv_at hl 0 rfl) ?_
  refine lv_iload_n hx hb dJ0_checkIndex_df160_1 rfl (lv_at hl 1 rfl) ?_
  rcases hE.fmt with hZ | ⟨t, hZ⟩
  · refine va_gets hx hb hZ hw.2.2 hown (hts (.fieldLink RJ0 1053 "jdk/internal/util/Preconditions" "SIOOBE_FORMATTER" "Ljava/util/function/BiFunction;") (List.mem_of_getElem? (i := 1) rfl)) (fun _ h9 => h9) dJ0_checkIndex_df160_2 ?_
    refine mcalli (w1 := (fun _ => ([] : va_W))) (wc := fun _ : Unit => ([] : va_W)) (u := ()) (va_runS (As := [.int a1, .int a2, .null]) (rest := []) hC (kJ3_checkIndex_8e157 l g aK aV H.size a1 a2 (.null) (Or.inl rfl) (fun r => r = a1) ⟨h1, h2, rfl⟩) (va_cwS 3 hts gJ0_checkIndex_df160_J3_checkIndex_8e157 rfl rfl rfl (by decide +kernel) ⟨Nat.le_of_ble_eq_true rfl, Nat.le_of_ble_eq_true rfl⟩) (mpre (E5_ok aK aV) hK hE hA hw (Sub1.nil _)) rfl rfl hl.1 rfl (lv_room (Nat.le_of_ble_eq_true rfl)) dJ0_checkIndex_df160_5 ⟨Nat.zero_le _, Nat.zero_le _⟩) hA hw (Sub1.nil _) (fun _ => Sub.nil _) (fun r u H locs h3 hw => ?_)
    refine lv_pop hx hb dJ0_checkIndex_df160_8 rfl ?_
    rw [hQ]
    exact mretv (w := (fun _ : Unit => ([] : va_W))) (u := ()) hC hr hlocks hK hw ⟨rfl, h⟩ dJ0_checkIndex_df160_9
  · refine va_gets hx hb hZ hw.2.2 hown (hts (.fieldLink RJ0 1053 "jdk/internal/util/Preconditions" "SIOOBE_FORMATTER" "Ljava/util/function/BiFunction;") (List.mem_of_getElem? (i := 1) rfl)) (fun _ h9 => h9) dJ0_checkIndex_df160_2 ?_
    refine mcalli (w1 := (fun _ => ([] : va_W))) (wc := fun _ : Unit => ([] : va_W)) (u := ()) (va_runS (As := [.int a1, .int a2, .ref t]) (rest := []) hC (kJ3_checkIndex_8e157 l g aK aV H.size a1 a2 (.ref t) (Or.inr ⟨t, rfl⟩) (fun r => r = a1) ⟨h1, h2, rfl⟩) (va_cwS 3 hts gJ0_checkIndex_df160_J3_checkIndex_8e157 rfl rfl rfl (by decide +kernel) ⟨Nat.le_of_ble_eq_true rfl, Nat.le_of_ble_eq_true rfl⟩) (mpre (E5_ok aK aV) hK hE hA hw (Sub1.nil _)) rfl rfl hl.1 rfl (lv_room (Nat.le_of_ble_eq_true rfl)) dJ0_checkIndex_df160_5 ⟨Nat.zero_le _, Nat.zero_le _⟩) hA hw (Sub1.nil _) (fun _ => Sub.nil _) (fun r u H locs h3 hw => ?_)
    refine lv_pop hx hb dJ0_checkIndex_df160_8 rfl ?_
    rw [hQ]
    exact mretv (w := (fun _ : Unit => ([] : va_W))) (u := ()) hC hr hlocks hK hw ⟨rfl, h⟩ dJ0_checkIndex_df160_9
set_option maxRecDepth 100000 in
set_option maxHeartbeats 4000000 in
theorem kJ1_charAt_3b067 (l : Launch) (g : Gl) (aK : Nat → Nat) (aV : Nat → Nat) (sz : Nat) (i k : Nat) (post : Int32 → Prop) (h : i < 14 ∧ k < lenJS.getD i 0 ∧ post ((bytJS.getD i []).getD k 0)) : Met l yJ1_charAt_3b067 wsJ1_charAt_3b067 (rmm 2 43) (wPc g (E5 aK aV) ([] : va_W) sz [.ref (aV i), .int (nI k)]) (va_Qi (fun (r : Int32) (u : Unit) => u = () ∧ post r) (wB g (fun _ : Unit => ([] : va_W)) (va_A ([] : va_W) sz)) (va_A ([] : va_W) sz)) 0 0 (va_A ([] : va_W) sz) := by
  refine mstart (Qf := fun A => va_Qi (fun (r : Int32) (u : Unit) => u = () ∧ post r) (wB g (fun _ : Unit => ([] : va_W)) A) A) (by decide) rfl (Nat.le_of_ble_eq_true rfl) ?_
  intro p e s m args below meth c A Q H locs ls hC hr hlocks hname hQ hA hK hE hw hl
  have hC : CallFix p m c cJ1_charAt_3b067 2 s args wsJ1_charAt_3b067 RJ1 := hC
  obtain ⟨hx, hb, -, hown, hts⟩ := id hC
  have hl : lv_has ls 2 [(0, .ref (aV i)), (1, .int (nI k))] := hl
  obtain ⟨hi, hk, h⟩ := h
  have hL := js_len_lt i hi
  have hin : vp_in (nI k) (lenJS.getD i 0) := vp_in_nI hk (by omega)
  refine lv_iload_n hx hb dJ1_charAt_3b067_0 rfl (lv_at hl 1 rfl) ?_
  refine lv_aload_n hx hb dJ1_charAt_3b067_1 rfl (lv_at hl 0 rfl) ?_
  refine va_tlen hx hb (hE.strS.1 i hi).2.2.2 hw.2.2 (v := nI (lenJS.getD i 0)) rfl dJ1_charAt_3b067_2 ?_
  refine mcallv (w1 := (fun _ => ([] : va_W))) (wc := fun _ : Unit => ([] : va_W)) (u := ()) (va_runS (As := [.int (nI k), .int (nI (lenJS.getD i 0))]) (rest := []) hC (kJ0_checkIndex_df160 l g aK aV H.size (nI k) (nI (lenJS.getD i 0)) True ⟨nI_pos (by omega), nI_lt hk (by omega), trivial⟩) (va_cwS 2 hts gJ1_charAt_3b067_J0_checkIndex_df160 rfl rfl rfl (by decide +kernel) ⟨Nat.le_of_ble_eq_true rfl, Nat.le_of_ble_eq_true rfl⟩) (mpre (E5_ok aK aV) hK hE hA hw (Sub1.nil _)) rfl rfl hl.1 rfl (lv_room (Nat.le_of_ble_eq_true rfl)) dJ1_charAt_3b067_3 ⟨Nat.zero_le _, Nat.zero_le _⟩) hA hw (Sub1.nil _) (fun _ => Sub.nil _) (fun u H locs h3 hw => ?_)
  refine lv_aload_n hx hb dJ1_charAt_3b067_6 rfl (lv_at hl 0 rfl) ?_
  refine lv_iload_n hx hb dJ1_charAt_3b067_7 rfl (lv_at hl 1 rfl) ?_
  refine va_tb hx hb (hE.strS.1 i hi).2.2.2 hw.2.2 hin (v := .int ((bytJS.getD i []).getD k 0)) (by rw [nI_clamp (by omega)]) dJ1_charAt_3b067_8 ?_
  refine lv_sipush (v := (255 : Int32)) hx hb dJ1_charAt_3b067_9 (by decide) ?_
  refine lv_iand hx hb dJ1_charAt_3b067_12 ?_
  refine lv_i2c (v := (bytJS.getD i []).getD k 0) hx hb dJ1_charAt_3b067_13 (js_chr i hi k hk) ?_
  rw [hQ]
  exact mretn (w := (fun _ : Unit => ([] : va_W))) (u := ()) hC hr hlocks hK hw (js_nar i hi k hk) ⟨rfl, h⟩ dJ1_charAt_3b067_14
def wJ0_charAt_5068e (i : Nat) (k : Int32) (post : Int32 → Prop) : Prop := i < 14 ∧ vp_in k (lenJS.getD i 0) ∧ post ((bytJS.getD i []).getD k.toNatClampNeg 0)
set_option maxRecDepth 100000 in
set_option maxHeartbeats 4000000 in
theorem kJ0_charAt_5068e (l : Launch) (g : Gl) (aK : Nat → Nat) (aV : Nat → Nat) (sz : Nat) (i : Nat) (a1 : Int32) (post : Int32 → Prop) (h : wJ0_charAt_5068e i a1 post) : Met l yJ0_charAt_5068e wsJ0_charAt_5068e (rmm 3 64) (wPc g (E5 aK aV) ([] : va_W) sz [.ref (aK i), .int a1]) (va_Qi (fun (r : Int32) (u : Unit) => u = () ∧ post r) (wB g (fun _ : Unit => ([] : va_W)) (va_A ([] : va_W) sz)) (va_A ([] : va_W) sz)) 0 0 (va_A ([] : va_W) sz) := by
  refine mstart (Qf := fun A => va_Qi (fun (r : Int32) (u : Unit) => u = () ∧ post r) (wB g (fun _ : Unit => ([] : va_W)) A) A) (by decide) rfl (Nat.le_of_ble_eq_true rfl) ?_
  intro p e s m args below meth c A Q H locs ls hC hr hlocks hname hQ hA hK hE hw hl
  have hC : CallFix p m c cJ0_charAt_5068e 2 s args wsJ0_charAt_5068e RJ0 := hC
  obtain ⟨hx, hb, -, hown, hts⟩ := id hC
  have hl : lv_has ls 2 [(0, .ref (aK i)), (1, .int a1)] := hl
  obtain ⟨hi, hin, h⟩ := h
  have hL := js_len_lt i hi
  obtain ⟨k, hk, rfl⟩ := vp_in_of hin (by omega)
  rw [nI_clamp (by omega)] at h
  refine lv_aload_n hx hb dJ0_charAt_5068e_0 rfl (lv_at hl 0 rfl) ?_
  refine mcalli (w1 := (fun _ => ([] : va_W))) (wc := fun _ : Unit => ([] : va_W)) (u := ()) (va_runV (As := []) (rest := []) hC (kJ0_isLatin1_aae02 l g aK aV H.size i (fun r => r = 1) ⟨hi, rfl⟩) (cwV 0 hts gJ0_charAt_5068e_J0_isLatin1_aae02 rfl rfl rfl (by decide +kernel) ⟨Nat.le_of_ble_eq_true rfl, Nat.le_of_ble_eq_true rfl⟩) (mpreStr (E5_ok aK aV) hK hE hA hw hi) rfl rfl hl.1 rfl (lv_room (Nat.le_of_ble_eq_true rfl)) dJ0_charAt_5068e_1 ⟨Nat.zero_le _, Nat.zero_le _⟩) hA hw (Sub1.nil _) (fun _ => Sub.nil _) (fun r u H locs h2 hw => ?_)
  obtain ⟨_, rfl⟩ := h2
  refine lv_if_eq (tgt := 16) hx hb dJ0_charAt_5068e_4 (by decide) (fun c => absurd c (by decide)) (fun c => ?_)
  refine lv_aload_n hx hb dJ0_charAt_5068e_7 rfl (lv_at hl 0 rfl) ?_
  refine vk_getf hx hb (hE.strS.1 i hi).2.2.1 hw.2.2 hown (hts (.fieldLink RJ0 9 "java/lang/String" "value" "[B") (List.mem_of_getElem? (i := 1) rfl)) (fun _ h9 => h9) dJ0_charAt_5068e_8 ?_
  refine lv_iload_n hx hb dJ0_charAt_5068e_11 rfl (lv_at hl 1 rfl) ?_
  refine mcalli (w1 := (fun _ => ([] : va_W))) (wc := fun _ : Unit => ([] : va_W)) (u := ()) (va_runS (As := [.ref (aV i), .int (nI k)]) (rest := []) hC (kJ1_charAt_3b067 l g aK aV H.size i k (fun r => r = (bytJS.getD i []).getD k 0) ⟨hi, hk, rfl⟩) (va_cwS 2 hts gJ0_charAt_5068e_J1_charAt_3b067 rfl rfl rfl (by decide +kernel) ⟨Nat.le_of_ble_eq_true rfl, Nat.le_of_ble_eq_true rfl⟩) (mpre (E5_ok aK aV) hK hE hA hw (Sub1.nil _)) rfl rfl hl.1 rfl (lv_room (Nat.le_of_ble_eq_true rfl)) dJ0_charAt_5068e_12 ⟨Nat.zero_le _, Nat.zero_le _⟩) hA hw (Sub1.nil _) (fun _ => Sub.nil _) (fun r u H locs h2 hw => ?_)
  obtain ⟨_, rfl⟩ := h2
  rw [hQ]
  exact mretn (w := (fun _ : Unit => ([] : va_W))) (u := ()) hC hr hlocks hK hw (js_nar i hi k hk) ⟨rfl, h⟩ dJ0_charAt_5068e_15
