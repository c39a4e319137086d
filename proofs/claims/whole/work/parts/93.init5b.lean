theorem iX5_end {p : Program} {l : Launch} {e : Env} {s : State} {m : MethodId} {args : Array Value} {below : List Frame} {meth : Method} {c : Code} {A : Nat → Prop} {g : Gl} {aK aV : Nat → Nat} {h0 a5 a6 a7 a10 : Nat} {q1 q2 q3 q4 q8 q9 : Nat → Nat} {qf qh : Nat → Nat → Nat} {H : Heap} {locs : List Loc} {ls : Array Slot} (hC : CallFix p m c cX5_init 2 s args wsX5_init RX5) (hr : meth.sig.returnType = none) (hlocks : meth.locks = false) (hA : ∀ q : Nat, s.heap.size ≤ q → A q) (hK : va_K g.1 vwCl (tysG g.2) s) (hE : E5i aK aV A s) (hw : Wd g.1 A s.heap ((w5 g h0 a5 a6 a7 a10 q1 q2 q3 q4 q8 q9 (fo 36 qf) (fo 4 qh) ++ flF g 36 qf) ++ flH g 4 qh) H locs) : W p l e ({ frames := 2, cells := 223, slots := 3478, locals := 32 } : Room) s m args below meth c H locs 223 3478 (MQ below (va_Qv (fun q : Nat → Nat → Nat => q 0 0 = h0) (wB g (fun q => wC g q (C0, N0)) A) A) args s 223 3478 A) (F0 m 163 ls []) := by
  have hp := hw.1
  have hd := hw.2.1
  rw [w5_fin] at hp hd
  replace hp := va_P_perm perm_fin hp
  replace hd := va_D_perm perm_fin hd
  have e := wC_fin g h0 a5 a6 a7 a10 q1 q2 q3 q4 q8 q9 qf qh
  have hp2 : va_P g.1 vwCl (wC g (qfin h0 a5 a6 a7 a10 q1 q2 q3 q4 q8 q9 qf qh) (C0, N0)) H := by
    rw [e]
    rw [va_P_iff] at hp ⊢
    intro q hq
    rcases List.mem_append.mp hq with hq | hq
    · exact hp q (List.mem_append.mpr (Or.inl hq))
    rcases List.mem_append.mp hq with hq | hq
    · rw [List.mem_singleton.mp hq]
      refine at_refs (f := fo 4 qh) (hp _ (List.mem_append.mpr (Or.inr (List.mem_append.mpr (Or.inl (List.mem_singleton.mpr rfl)))))) (fun k hk => ?_)
      unfold fo qfin
      rw [if_pos hk, if_neg (by omega), if_neg (by omega), if_neg (by omega), if_neg (by omega), if_neg (by omega), if_neg (by omega), if_neg (by omega), if_pos (by omega), Nat.add_sub_cancel]
    rcases List.mem_append.mp hq with hq | hq
    · exact hp q (List.mem_append.mpr (Or.inr (List.mem_append.mpr (Or.inr (List.mem_append.mpr (Or.inl hq))))))
    rcases List.mem_append.mp hq with hq | hq
    · rw [List.mem_singleton.mp hq]
      refine at_refs (f := fo 36 qf) (hp _ (List.mem_append.mpr (Or.inr (List.mem_append.mpr (Or.inr (List.mem_append.mpr (Or.inr (List.mem_append.mpr (Or.inl (List.mem_singleton.mpr rfl)))))))))) (fun k hk => ?_)
      unfold fo qfin
      rw [if_pos hk, if_neg (by omega), if_neg (by omega), if_neg (by omega), if_neg (by omega), if_neg (by omega), if_neg (by omega), if_neg (by omega), if_neg (by omega), Nat.add_sub_cancel]
    · exact hp q (List.mem_append.mpr (Or.inr (List.mem_append.mpr (Or.inr (List.mem_append.mpr (Or.inr (List.mem_append.mpr (Or.inr hq))))))))
  have hd2 : va_D A (wC g (qfin h0 a5 a6 a7 a10 q1 q2 q3 q4 q8 q9 qf qh) (C0, N0)) := by
    rw [e]
    exact hd.same (by simp only [List.map_append, List.map_cons, List.map_nil])
  exact W.vret hC.1 hC.2.1 hr (fun t ht hW => ⟨⟨qfin h0 a5 a6 a7 a10 q1 q2 q3 q4 q8 q9 qf qh, rfl, rfl, by rw [ht]; exact hp2, va_K.moved hW.alike hK, hd2⟩, hw.2.2.F ht⟩) hw.2.2.2.2 dX5_init_163
set_option maxRecDepth 100000 in
set_option maxHeartbeats 4000000 in
theorem iX5_loopH {p : Program} {l : Launch} {e : Env} {s : State} {m : MethodId} {args : Array Value} {below : List Frame} {meth : Method} {c : Code} {A : Nat → Prop} {g : Gl} {aK aV : Nat → Nat} {h0 a5 a6 a7 a10 : Nat} {q1 q2 q3 q4 q8 q9 : Nat → Nat} (hC : CallFix p m c cX5_init 2 s args wsX5_init RX5) (hr : meth.sig.returnType = none) (hlocks : meth.locks = false) (hA : ∀ q : Nat, s.heap.size ≤ q → A q) (hK : va_K g.1 vwCl (tysG g.2) s) (hE : E5i aK aV A s) : ∀ (n i : Nat) (qf qh : Nat → Nat → Nat) (H : Heap) (locs : List Loc) (ls : Array Slot), i ≤ 4 → 4 < i + n → Wd g.1 A s.heap ((w5 g h0 a5 a6 a7 a10 q1 q2 q3 q4 q8 q9 (fo 36 qf) (fo i qh) ++ flF g 36 qf) ++ flH g i qh) H locs → lv_has ls 2 [(1, .int (nI i)), (0, .ref h0)] → W p l e ({ frames := 2, cells := 223, slots := 3478, locals := 32 } : Room) s m args below meth c H locs (215 + 2 * i) (3306 + 43 * i) (MQ below (va_Qv (fun q : Nat → Nat → Nat => q 0 0 = h0) (wB g (fun q => wC g q (C0, N0)) A) A) args s 223 3478 A) (F0 m 135 ls []) := by
  obtain ⟨hx, hb, -, hown, hts⟩ := id hC
  have hinX5 : ∀ w ∈ wsX50, w ∈ wsX5_init := fun w hw9 => List.mem_cons_of_mem _ (List.mem_append_left _ (List.mem_append_left _ (List.mem_append_left _ (List.mem_append_left _ (List.mem_append_right _ hw9)))))
  have hinX3 : ∀ w ∈ wsX30, w ∈ wsX5_init := fun w hw9 => List.mem_cons_of_mem _ (List.mem_append_right _ hw9)
  intro n
  induction n with
  | zero => intro i qf qh H locs ls hi hn; exact absurd hn (by omega)
  | succ n ih =>
    intro i qf qh H locs ls hi hn hw hl
    refine lv_iload_n hx hb dX5_init_135 rfl (lv_at hl 0 rfl) ?_
    refine lv_aload_n hx hb dX5_init_136 rfl (lv_at hl 1 rfl) ?_
    refine va_get (D := g.1) (ci := 5) (v := .ref a5) (C := RX5) (T := TX5) (N := 11) hx hb hts hinX5 hown hK hw.1 0 rfl rfl 5 (by decide) (hts (.fieldLink RX5 31 "OneFurrow" "sheets" "[LOneFurrow$Sheet;") (List.mem_of_getElem? (i := 15) rfl)) (fun _ h9 => h9) rfl dX5_init_137 ?_
    refine va_alen hx hb hK hw.1 18 3 rfl rfl (v := (4 : Int32)) rfl dX5_init_140 ?_
    refine lv_icmp_ge (tgt := 163) hx hb dX5_init_141 (by decide) (fun cc => ?_) (fun cc => ?_)
    · obtain rfl : i = 4 := by
        rcases Nat.lt_or_ge i 4 with h4 | h4
        · exact absurd cc (nI_ge h4 (by decide))
        · omega
      exact iX5_end hC hr hlocks hA hK hE hw
    · have h4 : i < 4 := by
        rcases Nat.lt_or_ge i 4 with h4 | h4
        · exact h4
        · exact absurd (nI_le h4 (by omega)) cc
      refine lv_aload_n hx hb dX5_init_144 rfl (lv_at hl 1 rfl) ?_
      refine va_get (D := g.1) (ci := 5) (v := .ref a5) (C := RX5) (T := TX5) (N := 11) hx hb hts hinX5 hown hK hw.1 0 rfl rfl 5 (by decide) (hts (.fieldLink RX5 31 "OneFurrow" "sheets" "[LOneFurrow$Sheet;") (List.mem_of_getElem? (i := 15) rfl)) (fun _ h9 => h9) rfl dX5_init_145 ?_
      refine lv_iload_n hx hb dX5_init_148 rfl (lv_at hl 0 rfl) ?_
      obtain ⟨hP, hD, hS⟩ := hw
      generalize hX : ((w5 g h0 a5 a6 a7 a10 q1 q2 q3 q4 q8 q9 (fo 36 qf) (fo i qh) ++ flF g 36 qf) ++ flH g i qh) = X at hP hD
      refine va_new (ci := 3) (fs := [.int 0, .int 0, .null]) (C := RX3) (T := TX3) (N := 3) hx hb hts hinX3 tyX3 tyX3_ok hown (hts (.classLink RX5 29 RX3) (List.mem_of_getElem? (i := 14) rfl)) (hts (.instantiable RX3 3) (List.mem_of_getElem? (i := 28) rfl)) (hts (.initialized RX3) (List.mem_of_getElem? (i := 29) rfl)) hK hP hD hS hA rfl (fun j hj => by match j, hj with | 0, _ => rfl | 1, _ => rfl | 2, _ => rfl | j + 3, hj => exact absurd hj (by omega)) (by show _ ≤ 223; omega) (by show _ ≤ 3478; omega) dX5_init_149 (fun o71 H hP hD hS => ?_)
      refine lv_dup hx hb dX5_init_152 rfl ?_
      have hw : Wd g.1 A s.heap (X ++ [(o71, .inr (3, [.int 0, .int 0, .null]))]) H locs := ⟨hP, hD, hS⟩
      have hFc := (Sub1.last X (o71, .inr (3, [.int 0, .int 0, .null]))).free hw.2.1 hw.2.2 hA
      refine va_callv (va_runIN (As := []) (rest := .ref o71 :: [.int (nI i), .ref a5]) hC (iX3 l g o71 H.size) ⟨va_cnB 0 hts gX5_init_X3_init_n60 rfl rfl rfl hE.1.nMX5_60 (hts (.initialized RX3) (List.mem_of_getElem? (i := 29) rfl)) (by decide +kernel) ⟨(Nat.le_of_ble_eq_true rfl), (Nat.le_of_ble_eq_true rfl)⟩, rfl, (hts (.instanceMethod yX3_init) (List.mem_of_getElem? (i := 60) rfl))⟩ (mpre E0_ok hK trivial hA hw (Sub1.last _ _)) rfl rfl hl.1 rfl (lv_room (Nat.le_of_ble_eq_true rfl)) dX5_init_153 ⟨(by show _ ≤ 223; omega), (by show _ ≤ 3478; omega)⟩) hS (fun q _ h => hFc q h) hFc (fun q71 t H1 locs1 ht hvm hp hB hz hk hS => ?_)
      replace hw := mjoin hw hk hFc (by rw [← ht]; exact hB.1) hB.2.2 hS
      replace hp : q71 0 = o71 := hp
      subst hp
      clear hP hD hS
      obtain ⟨hP, hD, hS⟩ := hw
      generalize H1 = H at hP hS ⊢
      generalize locs1 = locs at hS ⊢
      subst hX
      have hv : (((w5 g h0 a5 a6 a7 a10 q1 q2 q3 q4 q8 q9 (fo 36 qf) (fo i qh) ++ flF g 36 qf) ++ flH g i qh) ++ wH g q71 ((fun _ _ => 0), (fun _ _ => 0)))[((w5 g h0 a5 a6 a7 a10 q1 q2 q3 q4 q8 q9 (fo 36 qf) (fo i qh) ++ flF g 36 qf) ++ flH g i qh).length]? = some (q71 0, .inr (3, [.int 0, .int 0, .ref (q71 3)])) := by rw [List.getElem?_append_right (Nat.le_refl _), Nat.sub_self]; rfl
      refine va_astq hx hb hK hP hD hS 18 3 _ 3 rfl rfl hv rfl (vp_in_nI h4 (by omega)) dX5_init_156 (fun H locs hP hD hS => ?_)
      rw [nI_clamp (by omega)] at hP hD
      replace hP : va_P g.1 vwCl (((w5 g h0 a5 a6 a7 a10 q1 q2 q3 q4 q8 q9 (fo 36 qf) (va_up (fo i qh) i (some (q71 0))) ++ flF g 36 qf) ++ flH g i qh) ++ wH g q71 ((fun _ _ => 0), (fun _ _ => 0))) H := hP
      replace hD : va_D A (((w5 g h0 a5 a6 a7 a10 q1 q2 q3 q4 q8 q9 (fo 36 qf) (va_up (fo i qh) i (some (q71 0))) ++ flF g 36 qf) ++ flH g i qh) ++ wH g q71 ((fun _ _ => 0), (fun _ _ => 0))) := hD
      rw [List.append_assoc, fo_s, flH_s] at hP hD
      obtain ⟨x1, ex1⟩ : ∃ y : Int32, y = nI i + 1 := ⟨_, rfl⟩
      refine lv_iinc (v := x1) (lv' := [(1, .int x1), (0, .ref h0)]) hx hb dX5_init_157 hl (k := 0) rfl (by rw [ex1]; rfl) (by decide) rfl (fun ls hl => ?_)
      refine lv_goto (tgt := 135) hx hb dX5_init_160 (by decide) ?_
      rw [nI_1] at ex1
      subst ex1
      refine W.widen (k := 215 + 2 * (i + 1)) (n := 3306 + 43 * (i + 1)) (by omega) (by omega) ?_
      exact ih (i + 1) qf (va_up qh i q71) H locs ls (by omega) (by omega) ⟨hP, hD, hS⟩ hl
set_option maxRecDepth 100000 in
set_option maxHeartbeats 4000000 in
theorem iX5_loopF {p : Program} {l : Launch} {e : Env} {s : State} {m : MethodId} {args : Array Value} {below : List Frame} {meth : Method} {c : Code} {A : Nat → Prop} {g : Gl} {aK aV : Nat → Nat} {h0 a5 a6 a7 a10 : Nat} {q1 q2 q3 q4 q8 q9 : Nat → Nat} (hC : CallFix p m c cX5_init 2 s args wsX5_init RX5) (hr : meth.sig.returnType = none) (hlocks : meth.locks = false) (hA : ∀ q : Nat, s.heap.size ≤ q → A q) (hK : va_K g.1 vwCl (tysG g.2) s) (hE : E5i aK aV A s) : ∀ (n i : Nat) (qf qh : Nat → Nat → Nat) (H : Heap) (locs : List Loc) (ls : Array Slot), i ≤ 36 → 36 < i + n → Wd g.1 A s.heap (w5 g h0 a5 a6 a7 a10 q1 q2 q3 q4 q8 q9 (fo i qf) (fo 0 qh) ++ flF g i qf) H locs → lv_has ls 2 [(1, .int (nI i)), (0, .ref h0)] → W p l e ({ frames := 2, cells := 223, slots := 3478, locals := 32 } : Room) s m args below meth c H locs (35 + 5 * i) (498 + 78 * i) (MQ below (va_Qv (fun q : Nat → Nat → Nat => q 0 0 = h0) (wB g (fun q => wC g q (C0, N0)) A) A) args s 223 3478 A) (F0 m 105 ls []) := by
  obtain ⟨hx, hb, -, hown, hts⟩ := id hC
  have hinX5 : ∀ w ∈ wsX50, w ∈ wsX5_init := fun w hw9 => List.mem_cons_of_mem _ (List.mem_append_left _ (List.mem_append_left _ (List.mem_append_left _ (List.mem_append_left _ (List.mem_append_right _ hw9)))))
  have hinX0 : ∀ w ∈ wsX00, w ∈ wsX5_init := fun w hw9 => List.mem_cons_of_mem _ (List.mem_append_left _ (List.mem_append_left _ (List.mem_append_right _ hw9)))
  intro n
  induction n with
  | zero => intro i qf qh H locs ls hi hn; exact absurd hn (by omega)
  | succ n ih =>
    intro i qf qh H locs ls hi hn hw hl
    refine lv_iload_n hx hb dX5_init_105 rfl (lv_at hl 0 rfl) ?_
    refine lv_aload_n hx hb dX5_init_106 rfl (lv_at hl 1 rfl) ?_
    refine va_get (D := g.1) (ci := 5) (v := .ref a7) (C := RX5) (T := TX5) (N := 11) hx hb hts hinX5 hown hK hw.1 0 rfl rfl 7 (by decide) (hts (.fieldLink RX5 41 "OneFurrow" "asked" "[LOneFurrow$Furrows;") (List.mem_of_getElem? (i := 19) rfl)) (fun _ h9 => h9) rfl dX5_init_107 ?_
    refine va_alen hx hb hK hw.1 20 2 rfl rfl (v := (36 : Int32)) rfl dX5_init_110 ?_
    refine lv_icmp_ge (tgt := 133) hx hb dX5_init_111 (by decide) (fun cc => ?_) (fun cc => ?_)
    · obtain rfl : i = 36 := by
        rcases Nat.lt_or_ge i 36 with h4 | h4
        · exact absurd cc (nI_ge h4 (by decide))
        · omega
      refine lv_iconst (v := (0 : Int32)) hx hb dX5_init_133 (by decide) ?_
      refine lv_istore_n (lv' := [(1, .int (0 : Int32)), (0, .ref h0)]) hx hb dX5_init_134 rfl hl (by decide) rfl (fun ls hl => ?_)
      refine W.widen (k := 215 + 2 * 0) (n := 3306 + 43 * 0) (by omega) (by omega) ?_
      refine iX5_loopH (q1 := q1) (q2 := q2) (q3 := q3) (q4 := q4) (q8 := q8) (q9 := q9) (a5 := a5) (a6 := a6) (a7 := a7) (a10 := a10) hC hr hlocks hA hK hE 5 0 qf qh H locs ls (by omega) (by omega) ?_ hl
      have e0 : flH g 0 qh = [] := rfl
      rw [e0, List.append_nil]
      exact hw
    · have h4 : i < 36 := by
        rcases Nat.lt_or_ge i 36 with h4 | h4
        · exact h4
        · exact absurd (nI_le h4 (by omega)) cc
      refine lv_aload_n hx hb dX5_init_114 rfl (lv_at hl 1 rfl) ?_
      refine va_get (D := g.1) (ci := 5) (v := .ref a7) (C := RX5) (T := TX5) (N := 11) hx hb hts hinX5 hown hK hw.1 0 rfl rfl 7 (by decide) (hts (.fieldLink RX5 41 "OneFurrow" "asked" "[LOneFurrow$Furrows;") (List.mem_of_getElem? (i := 19) rfl)) (fun _ h9 => h9) rfl dX5_init_115 ?_
      refine lv_iload_n hx hb dX5_init_118 rfl (lv_at hl 0 rfl) ?_
      obtain ⟨hP, hD, hS⟩ := hw
      generalize hX : (w5 g h0 a5 a6 a7 a10 q1 q2 q3 q4 q8 q9 (fo i qf) (fo 0 qh) ++ flF g i qf) = X at hP hD
      refine va_new (ci := 0) (fs := [.int 0, .int 0, .int 0, .int 0, .int 0, .int 0, .int 0, .int 0, .null, .null, .null, .int 0, .int 0, .null]) (C := RX0) (T := TX0) (N := 14) hx hb hts hinX0 tyX0 tyX0_ok hown (hts (.classLink RX5 39 RX0) (List.mem_of_getElem? (i := 18) rfl)) (hts (.instantiable RX0 14) (List.mem_of_getElem? (i := 20) rfl)) (hts (.initialized RX0) (List.mem_of_getElem? (i := 21) rfl)) hK hP hD hS hA rfl (fun j hj => by match j, hj with | 0, _ => rfl | 1, _ => rfl | 2, _ => rfl | 3, _ => rfl | 4, _ => rfl | 5, _ => rfl | 6, _ => rfl | 7, _ => rfl | 8, _ => rfl | 9, _ => rfl | 10, _ => rfl | 11, _ => rfl | 12, _ => rfl | 13, _ => rfl | j + 14, hj => exact absurd hj (by omega)) (by show _ ≤ 223; omega) (by show _ ≤ 3478; omega) dX5_init_119 (fun o71 H hP hD hS => ?_)
      refine lv_dup hx hb dX5_init_122 rfl ?_
      have hw : Wd g.1 A s.heap (X ++ [(o71, .inr (0, [.int 0, .int 0, .int 0, .int 0, .int 0, .int 0, .int 0, .int 0, .null, .null, .null, .int 0, .int 0, .null]))]) H locs := ⟨hP, hD, hS⟩
      have hFc := (Sub1.last X (o71, .inr (0, [.int 0, .int 0, .int 0, .int 0, .int 0, .int 0, .int 0, .int 0, .null, .null, .null, .int 0, .int 0, .null]))).free hw.2.1 hw.2.2 hA
      refine va_callv (va_runIN (As := []) (rest := .ref o71 :: [.int (nI i), .ref a7]) hC (iX0 l g o71 H.size) ⟨va_cnB 0 hts gX5_init_X0_init_n45 rfl rfl rfl hE.1.nMX5_45 (hts (.initialized RX0) (List.mem_of_getElem? (i := 21) rfl)) (by decide +kernel) ⟨(Nat.le_of_ble_eq_true rfl), (Nat.le_of_ble_eq_true rfl)⟩, rfl, (hts (.instanceMethod yX0_init) (List.mem_of_getElem? (i := 41) rfl))⟩ (mpre E0_ok hK trivial hA hw (Sub1.last _ _)) rfl rfl hl.1 rfl (lv_room (Nat.le_of_ble_eq_true rfl)) dX5_init_123 ⟨(by show _ ≤ 223; omega), (by show _ ≤ 3478; omega)⟩) hS (fun q _ h => hFc q h) hFc (fun q71 t H1 locs1 ht hvm hp hB hz hk hS => ?_)
      replace hw := mjoin hw hk hFc (by rw [← ht]; exact hB.1) hB.2.2 hS
      replace hp : q71 0 = o71 := hp
      subst hp
      clear hP hD hS
      obtain ⟨hP, hD, hS⟩ := hw
      generalize H1 = H at hP hS ⊢
      generalize locs1 = locs at hS ⊢
      subst hX
      have hv : ((w5 g h0 a5 a6 a7 a10 q1 q2 q3 q4 q8 q9 (fo i qf) (fo 0 qh) ++ flF g i qf) ++ wF g q71 FZ)[(w5 g h0 a5 a6 a7 a10 q1 q2 q3 q4 q8 q9 (fo i qf) (fo 0 qh) ++ flF g i qf).length]? = some (q71 0, .inr (0, [.int (FZ 0 0), .int (FZ 0 1), .int (FZ 0 2), .int (FZ 0 3), .int (FZ 0 4), .int (FZ 0 5), .int (FZ 0 6), .int (FZ 0 7), .ref (q71 9), .ref (q71 10), .ref (q71 11), .int (FZ 0 11), .int (FZ 0 12), .ref (q71 14)])) := by rw [List.getElem?_append_right (Nat.le_refl _), Nat.sub_self]; rfl
      refine va_astq hx hb hK hP hD hS 20 2 _ 0 rfl rfl hv rfl (vp_in_nI h4 (by omega)) dX5_init_126 (fun H locs hP hD hS => ?_)
      rw [nI_clamp (by omega)] at hP hD
      replace hP : va_P g.1 vwCl ((w5 g h0 a5 a6 a7 a10 q1 q2 q3 q4 q8 q9 (va_up (fo i qf) i (some (q71 0))) (fo 0 qh) ++ flF g i qf) ++ wF g q71 FZ) H := hP
      replace hD : va_D A ((w5 g h0 a5 a6 a7 a10 q1 q2 q3 q4 q8 q9 (va_up (fo i qf) i (some (q71 0))) (fo 0 qh) ++ flF g i qf) ++ wF g q71 FZ) := hD
      rw [List.append_assoc, fo_s, flF_s] at hP hD
      obtain ⟨x1, ex1⟩ : ∃ y : Int32, y = nI i + 1 := ⟨_, rfl⟩
      refine lv_iinc (v := x1) (lv' := [(1, .int x1), (0, .ref h0)]) hx hb dX5_init_127 hl (k := 0) rfl (by rw [ex1]; rfl) (by decide) rfl (fun ls hl => ?_)
      refine lv_goto (tgt := 105) hx hb dX5_init_130 (by decide) ?_
      rw [nI_1] at ex1
      subst ex1
      refine W.widen (k := 35 + 5 * (i + 1)) (n := 498 + 78 * (i + 1)) (by omega) (by omega) ?_
      exact ih (i + 1) (va_up qf i q71) qh H locs ls (by omega) (by omega) ⟨hP, hD, hS⟩ hl
set_option maxRecDepth 100000 in
set_option maxHeartbeats 8000000 in
theorem iX5 (l : Launch) (g : Gl) (aK aV : Nat → Nat) (h0 : Nat) (sz : Nat) : Met l yX5_init wsX5_init ({ frames := 2, cells := 223, slots := 3478, locals := 32 } : Room) (wPc g (E5i aK aV) [(h0, .inr (5, [.null, .null, .null, .int 0, .null, .null, .null, .null, .null, .null, .null]))] sz [.ref h0]) (va_Qv (fun q : Nat → Nat → Nat => q 0 0 = h0) (wB g (fun q => wC g q (C0, N0)) (va_A [(h0, .inr (5, [.null, .null, .null, .int 0, .null, .null, .null, .null, .null, .null, .null]))] sz)) (va_A [(h0, .inr (5, [.null, .null, .null, .int 0, .null, .null, .null, .null, .null, .null, .null]))] sz)) 223 3478 (va_A [(h0, .inr (5, [.null, .null, .null, .int 0, .null, .null, .null, .null, .null, .null, .null]))] sz) := by
  refine mstart (Qf := fun A => va_Qv (fun q : Nat → Nat → Nat => q 0 0 = h0) (wB g (fun q => wC g q (C0, N0)) A) A) (by decide) rfl (Nat.le_of_ble_eq_true rfl) ?_
  intro p e s m args below meth c A Q H locs ls hC hr hlocks hname hQ hA hK hE hw hl
  have hC : CallFix p m c cX5_init 2 s args wsX5_init RX5 := hC
  obtain ⟨hx, hb, -, hown, hts⟩ := id hC
  obtain ⟨hP, hD, hS⟩ := hw
  rw [hQ]
  have hl : lv_has ls 2 [(0, .ref h0)] := hl
  have hinX5 : ∀ w ∈ wsX50, w ∈ wsX5_init := fun w hw9 => List.mem_cons_of_mem _ (List.mem_append_left _ (List.mem_append_left _ (List.mem_append_left _ (List.mem_append_left _ (List.mem_append_right _ hw9)))))
  have hinX1 : ∀ w ∈ wsX10, w ∈ wsX5_init := fun w hw9 => List.mem_cons_of_mem _ (List.mem_append_left _ (List.mem_append_left _ (List.mem_append_left _ (List.mem_append_left _ (List.mem_append_left _ (List.mem_append_right _ hw9))))))
  have hinX4 : ∀ w ∈ wsX40, w ∈ wsX5_init := fun w hw9 => List.mem_cons_of_mem _ (List.mem_append_left _ (List.mem_append_left _ (List.mem_append_left _ (List.mem_append_right _ hw9))))
  have hinX0 : ∀ w ∈ wsX00, w ∈ wsX5_init := fun w hw9 => List.mem_cons_of_mem _ (List.mem_append_left _ (List.mem_append_left _ (List.mem_append_right _ hw9)))
  have hinX2 : ∀ w ∈ wsX20, w ∈ wsX5_init := fun w hw9 => List.mem_cons_of_mem _ (List.mem_append_left _ (List.mem_append_right _ hw9))
  have hinX3 : ∀ w ∈ wsX30, w ∈ wsX5_init := fun w hw9 => List.mem_cons_of_mem _ (List.mem_append_right _ hw9)
  refine lv_aload_n hx hb dX5_init_0 rfl (lv_at hl 0 rfl) ?_
  refine W.objInit hx hb hown (hts (.methodLink RX5 1 objectInit) (List.mem_of_getElem? (i := 1) rfl)) (hts (.instanceMethod objectInit) (List.mem_of_getElem? (i := 2) rfl)) (hts (.code objectInit ⟨#[0xb1]⟩ 1 none) (List.mem_of_getElem? (i := 3) rfl)) rfl (by rw [hC.2.2.1]; exact hl.1) rfl dX5_init_1 (Nat.le_of_ble_eq_true rfl) (Nat.le_of_ble_eq_true rfl) ?_
  refine W.eq (g2 := F0 m 4 ls []) rfl ?_
  refine lv_aload_n hx hb dX5_init_4 rfl (lv_at hl 0 rfl) ?_
  refine va_new (ci := 1) (fs := [.int 0, .int 0, .null, .null, .null, .null]) (C := RX1) (T := TX1) (N := 6) hx hb hts hinX1 tyX1 tyX1_ok hown (hts (.classLink RX5 7 RX1) (List.mem_of_getElem? (i := 4) rfl)) (hts (.instantiable RX1 6) (List.mem_of_getElem? (i := 5) rfl)) (hts (.initialized RX1) (List.mem_of_getElem? (i := 6) rfl)) hK hP hD hS hA rfl (fun j hj => by match j, hj with | 0, _ => rfl | 1, _ => rfl | 2, _ => rfl | 3, _ => rfl | 4, _ => rfl | 5, _ => rfl | j + 6, hj => exact absurd hj (by omega)) (Nat.le_of_ble_eq_true rfl) (Nat.le_of_ble_eq_true rfl) dX5_init_5 (fun o1 H hP hD hS => ?_)
  refine lv_dup hx hb dX5_init_8 rfl ?_
  have hw : Wd g.1 A s.heap (((h0, .inr (5, [.null, .null, .null, .int 0, .null, .null, .null, .null, .null, .null, .null])) :: []) ++ [(o1, .inr (1, [.int 0, .int 0, .null, .null, .null, .null]))]) H locs := ⟨hP, hD, hS⟩
  have hFc := (Sub1.last ((h0, .inr (5, [.null, .null, .null, .int 0, .null, .null, .null, .null, .null, .null, .null])) :: []) (o1, .inr (1, [.int 0, .int 0, .null, .null, .null, .null]))).free hw.2.1 hw.2.2 hA
  refine va_callv (va_runIN (As := []) (rest := .ref o1 :: [.ref h0]) hC (iX1 l g o1 H.size) ⟨va_cnB 0 hts gX5_init_X1_init_n9 rfl rfl rfl hE.1.nMX5_9 (hts (.initialized RX1) (List.mem_of_getElem? (i := 6) rfl)) (by decide +kernel) ⟨(Nat.le_of_ble_eq_true rfl), (Nat.le_of_ble_eq_true rfl)⟩, rfl, (hts (.instanceMethod yX1_init) (List.mem_of_getElem? (i := 30) rfl))⟩ (mpre E0_ok hK trivial hA hw (Sub1.last _ _)) rfl rfl hl.1 rfl (lv_room (Nat.le_of_ble_eq_true rfl)) dX5_init_9 ⟨(Nat.le_of_ble_eq_true rfl), (Nat.le_of_ble_eq_true rfl)⟩) hS (fun q _ h => hFc q h) hFc (fun q1 t H1 locs1 ht hvm hp hB hz hk hS => ?_)
  replace hw := mjoin hw hk hFc (by rw [← ht]; exact hB.1) hB.2.2 hS
  replace hp : q1 0 = o1 := hp
  subst hp
  clear hP hD hS
  obtain ⟨hP, hD, hS⟩ := hw
  generalize H1 = H at hP hS ⊢
  generalize locs1 = locs at hS ⊢
  refine va_putF (D := g.1) (ci := 5) (v := .ref (q1 0)) (ty := .object "OneFurrow$Parish") (C := RX5) (T := TX5) (N := 11) hx hb hts hinX5 tyX5 tyX5_ok nmX5 hown hK hP hD hS 0 rfl rfl 0 (by decide) (hts (.fieldLink RX5 10 "OneFurrow" "now" "LOneFurrow$Parish;") (List.mem_of_getElem? (i := 7) rfl)) (fun _ h9 => h9) rfl hname rfl (by decide +kernel) rfl rfl (Nat.le_of_ble_eq_true rfl) dX5_init_12 (fun H locs hP hD hS => ?_)
  replace hP : va_P g.1 vwCl ((h0, .inr (5, [.ref (q1 0), .null, .null, .int 0, .null, .null, .null, .null, .null, .null, .null])) :: wP g q1 (fun _ _ => 0)) H := hP
  replace hD : va_D A ((h0, .inr (5, [.ref (q1 0), .null, .null, .int 0, .null, .null, .null, .null, .null, .null, .null])) :: wP g q1 (fun _ _ => 0)) := hD
  refine lv_aload_n hx hb dX5_init_15 rfl (lv_at hl 0 rfl) ?_
  refine va_new (ci := 1) (fs := [.int 0, .int 0, .null, .null, .null, .null]) (C := RX1) (T := TX1) (N := 6) hx hb hts hinX1 tyX1 tyX1_ok hown (hts (.classLink RX5 7 RX1) (List.mem_of_getElem? (i := 4) rfl)) (hts (.instantiable RX1 6) (List.mem_of_getElem? (i := 5) rfl)) (hts (.initialized RX1) (List.mem_of_getElem? (i := 6) rfl)) hK hP hD hS hA rfl (fun j hj => by match j, hj with | 0, _ => rfl | 1, _ => rfl | 2, _ => rfl | 3, _ => rfl | 4, _ => rfl | 5, _ => rfl | j + 6, hj => exact absurd hj (by omega)) (Nat.le_of_ble_eq_true rfl) (Nat.le_of_ble_eq_true rfl) dX5_init_16 (fun o2 H hP hD hS => ?_)
  refine lv_dup hx hb dX5_init_19 rfl ?_
  have hw : Wd g.1 A s.heap (((h0, .inr (5, [.ref (q1 0), .null, .null, .int 0, .null, .null, .null, .null, .null, .null, .null])) :: wP g q1 (fun _ _ => 0)) ++ [(o2, .inr (1, [.int 0, .int 0, .null, .null, .null, .null]))]) H locs := ⟨hP, hD, hS⟩
  have hFc := (Sub1.last ((h0, .inr (5, [.ref (q1 0), .null, .null, .int 0, .null, .null, .null, .null, .null, .null, .null])) :: wP g q1 (fun _ _ => 0)) (o2, .inr (1, [.int 0, .int 0, .null, .null, .null, .null]))).free hw.2.1 hw.2.2 hA
  refine va_callv (va_runIN (As := []) (rest := .ref o2 :: [.ref h0]) hC (iX1 l g o2 H.size) ⟨va_cnB 0 hts gX5_init_X1_init_n9 rfl rfl rfl hE.1.nMX5_9 (hts (.initialized RX1) (List.mem_of_getElem? (i := 6) rfl)) (by decide +kernel) ⟨(Nat.le_of_ble_eq_true rfl), (Nat.le_of_ble_eq_true rfl)⟩, rfl, (hts (.instanceMethod yX1_init) (List.mem_of_getElem? (i := 30) rfl))⟩ (mpre E0_ok hK trivial hA hw (Sub1.last _ _)) rfl rfl hl.1 rfl (lv_room (Nat.le_of_ble_eq_true rfl)) dX5_init_20 ⟨(Nat.le_of_ble_eq_true rfl), (Nat.le_of_ble_eq_true rfl)⟩) hS (fun q _ h => hFc q h) hFc (fun q2 t H1 locs1 ht hvm hp hB hz hk hS => ?_)
  replace hw := mjoin hw hk hFc (by rw [← ht]; exact hB.1) hB.2.2 hS
  replace hp : q2 0 = o2 := hp
  subst hp
  clear hP hD hS
  obtain ⟨hP, hD, hS⟩ := hw
  generalize H1 = H at hP hS ⊢
  generalize locs1 = locs at hS ⊢
  refine va_putF (D := g.1) (ci := 5) (v := .ref (q2 0)) (ty := .object "OneFurrow$Parish") (C := RX5) (T := TX5) (N := 11) hx hb hts hinX5 tyX5 tyX5_ok nmX5 hown hK hP hD hS 0 rfl rfl 1 (by decide) (hts (.fieldLink RX5 16 "OneFurrow" "kept" "LOneFurrow$Parish;") (List.mem_of_getElem? (i := 8) rfl)) (fun _ h9 => h9) rfl hname rfl (by decide +kernel) rfl rfl (Nat.le_of_ble_eq_true rfl) dX5_init_23 (fun H locs hP hD hS => ?_)
  replace hP : va_P g.1 vwCl ((h0, .inr (5, [.ref (q1 0), .ref (q2 0), .null, .int 0, .null, .null, .null, .null, .null, .null, .null])) :: (wP g q1 (fun _ _ => 0) ++ wP g q2 (fun _ _ => 0))) H := hP
  replace hD : va_D A ((h0, .inr (5, [.ref (q1 0), .ref (q2 0), .null, .int 0, .null, .null, .null, .null, .null, .null, .null])) :: (wP g q1 (fun _ _ => 0) ++ wP g q2 (fun _ _ => 0))) := hD
  refine lv_aload_n hx hb dX5_init_26 rfl (lv_at hl 0 rfl) ?_
  refine va_new (ci := 1) (fs := [.int 0, .int 0, .null, .null, .null, .null]) (C := RX1) (T := TX1) (N := 6) hx hb hts hinX1 tyX1 tyX1_ok hown (hts (.classLink RX5 7 RX1) (List.mem_of_getElem? (i := 4) rfl)) (hts (.instantiable RX1 6) (List.mem_of_getElem? (i := 5) rfl)) (hts (.initialized RX1) (List.mem_of_getElem? (i := 6) rfl)) hK hP hD hS hA rfl (fun j hj => by match j, hj with | 0, _ => rfl | 1, _ => rfl | 2, _ => rfl | 3, _ => rfl | 4, _ => rfl | 5, _ => rfl | j + 6, hj => exact absurd hj (by omega)) (Nat.le_of_ble_eq_true rfl) (Nat.le_of_ble_eq_true rfl) dX5_init_27 (fun o3 H hP hD hS => ?_)
  refine lv_dup hx hb dX5_init_30 rfl ?_
  have hw : Wd g.1 A s.heap (((h0, .inr (5, [.ref (q1 0), .ref (q2 0), .null, .int 0, .null, .null, .null, .null, .null, .null, .null])) :: (wP g q1 (fun _ _ => 0) ++ wP g q2 (fun _ _ => 0))) ++ [(o3, .inr (1, [.int 0, .int 0, .null, .null, .null, .null]))]) H locs := ⟨hP, hD, hS⟩
  have hFc := (Sub1.last ((h0, .inr (5, [.ref (q1 0), .ref (q2 0), .null, .int 0, .null, .null, .null, .null, .null, .null, .null])) :: (wP g q1 (fun _ _ => 0) ++ wP g q2 (fun _ _ => 0))) (o3, .inr (1, [.int 0, .int 0, .null, .null, .null, .null]))).free hw.2.1 hw.2.2 hA
  refine va_callv (va_runIN (As := []) (rest := .ref o3 :: [.ref h0]) hC (iX1 l g o3 H.size) ⟨va_cnB 0 hts gX5_init_X1_init_n9 rfl rfl rfl hE.1.nMX5_9 (hts (.initialized RX1) (List.mem_of_getElem? (i := 6) rfl)) (by decide +kernel) ⟨(Nat.le_of_ble_eq_true rfl), (Nat.le_of_ble_eq_true rfl)⟩, rfl, (hts (.instanceMethod yX1_init) (List.mem_of_getElem? (i := 30) rfl))⟩ (mpre E0_ok hK trivial hA hw (Sub1.last _ _)) rfl rfl hl.1 rfl (lv_room (Nat.le_of_ble_eq_true rfl)) dX5_init_31 ⟨(Nat.le_of_ble_eq_true rfl), (Nat.le_of_ble_eq_true rfl)⟩) hS (fun q _ h => hFc q h) hFc (fun q3 t H1 locs1 ht hvm hp hB hz hk hS => ?_)
  replace hw := mjoin hw hk hFc (by rw [← ht]; exact hB.1) hB.2.2 hS
  replace hp : q3 0 = o3 := hp
  subst hp
  clear hP hD hS
  obtain ⟨hP, hD, hS⟩ := hw
  generalize H1 = H at hP hS ⊢
  generalize locs1 = locs at hS ⊢
  refine va_putF (D := g.1) (ci := 5) (v := .ref (q3 0)) (ty := .object "OneFurrow$Parish") (C := RX5) (T := TX5) (N := 11) hx hb hts hinX5 tyX5 tyX5_ok nmX5 hown hK hP hD hS 0 rfl rfl 2 (by decide) (hts (.fieldLink RX5 19 "OneFurrow" "draft" "LOneFurrow$Parish;") (List.mem_of_getElem? (i := 9) rfl)) (fun _ h9 => h9) rfl hname rfl (by decide +kernel) rfl rfl (Nat.le_of_ble_eq_true rfl) dX5_init_34 (fun H locs hP hD hS => ?_)
  replace hP : va_P g.1 vwCl ((h0, .inr (5, [.ref (q1 0), .ref (q2 0), .ref (q3 0), .int 0, .null, .null, .null, .null, .null, .null, .null])) :: ((wP g q1 (fun _ _ => 0) ++ wP g q2 (fun _ _ => 0)) ++ wP g q3 (fun _ _ => 0))) H := hP
  replace hD : va_D A ((h0, .inr (5, [.ref (q1 0), .ref (q2 0), .ref (q3 0), .int 0, .null, .null, .null, .null, .null, .null, .null])) :: ((wP g q1 (fun _ _ => 0) ++ wP g q2 (fun _ _ => 0)) ++ wP g q3 (fun _ _ => 0))) := hD
  refine lv_aload_n hx hb dX5_init_37 rfl (lv_at hl 0 rfl) ?_
  refine va_new (ci := 4) (fs := [.null, .int 0, .int 0, .int 0, .int 0, .int 0]) (C := RX4) (T := TX4) (N := 6) hx hb hts hinX4 tyX4 tyX4_ok hown (hts (.classLink RX5 22 RX4) (List.mem_of_getElem? (i := 10) rfl)) (hts (.instantiable RX4 6) (List.mem_of_getElem? (i := 11) rfl)) (hts (.initialized RX4) (List.mem_of_getElem? (i := 12) rfl)) hK hP hD hS hA rfl (fun j hj => by match j, hj with | 0, _ => rfl | 1, _ => rfl | 2, _ => rfl | 3, _ => rfl | 4, _ => rfl | 5, _ => rfl | j + 6, hj => exact absurd hj (by omega)) (Nat.le_of_ble_eq_true rfl) (Nat.le_of_ble_eq_true rfl) dX5_init_38 (fun o4 H hP hD hS => ?_)
  refine lv_dup hx hb dX5_init_41 rfl ?_
  have hw : Wd g.1 A s.heap (((h0, .inr (5, [.ref (q1 0), .ref (q2 0), .ref (q3 0), .int 0, .null, .null, .null, .null, .null, .null, .null])) :: ((wP g q1 (fun _ _ => 0) ++ wP g q2 (fun _ _ => 0)) ++ wP g q3 (fun _ _ => 0))) ++ [(o4, .inr (4, [.null, .int 0, .int 0, .int 0, .int 0, .int 0]))]) H locs := ⟨hP, hD, hS⟩
  have hFc := (Sub1.last ((h0, .inr (5, [.ref (q1 0), .ref (q2 0), .ref (q3 0), .int 0, .null, .null, .null, .null, .null, .null, .null])) :: ((wP g q1 (fun _ _ => 0) ++ wP g q2 (fun _ _ => 0)) ++ wP g q3 (fun _ _ => 0))) (o4, .inr (4, [.null, .int 0, .int 0, .int 0, .int 0, .int 0]))).free hw.2.1 hw.2.2 hA
  refine va_callv (va_runIN (As := []) (rest := .ref o4 :: [.ref h0]) hC (iX4 l g o4 H.size) ⟨va_cnB 0 hts gX5_init_X4_init_n24 rfl rfl rfl hE.1.nMX5_24 (hts (.initialized RX4) (List.mem_of_getElem? (i := 12) rfl)) (by decide +kernel) ⟨(Nat.le_of_ble_eq_true rfl), (Nat.le_of_ble_eq_true rfl)⟩, rfl, (hts (.instanceMethod yX4_init) (List.mem_of_getElem? (i := 37) rfl))⟩ (mpre E0_ok hK trivial hA hw (Sub1.last _ _)) rfl rfl hl.1 rfl (lv_room (Nat.le_of_ble_eq_true rfl)) dX5_init_42 ⟨(Nat.le_of_ble_eq_true rfl), (Nat.le_of_ble_eq_true rfl)⟩) hS (fun q _ h => hFc q h) hFc (fun q4 t H1 locs1 ht hvm hp hB hz hk hS => ?_)
  replace hw := mjoin hw hk hFc (by rw [← ht]; exact hB.1) hB.2.2 hS
  replace hp : q4 0 = o4 := hp
  subst hp
  clear hP hD hS
  obtain ⟨hP, hD, hS⟩ := hw
  generalize H1 = H at hP hS ⊢
  generalize locs1 = locs at hS ⊢
  refine va_putF (D := g.1) (ci := 5) (v := .ref (q4 0)) (ty := .object "OneFurrow$Text") (C := RX5) (T := TX5) (N := 11) hx hb hts hinX5 tyX5 tyX5_ok nmX5 hown hK hP hD hS 0 rfl rfl 4 (by decide) (hts (.fieldLink RX5 25 "OneFurrow" "tape" "LOneFurrow$Text;") (List.mem_of_getElem? (i := 13) rfl)) (fun _ h9 => h9) rfl hname rfl (by decide +kernel) rfl rfl (Nat.le_of_ble_eq_true rfl) dX5_init_45 (fun H locs hP hD hS => ?_)
  replace hP : va_P g.1 vwCl ((h0, .inr (5, [.ref (q1 0), .ref (q2 0), .ref (q3 0), .int 0, .ref (q4 0), .null, .null, .null, .null, .null, .null])) :: (((wP g q1 (fun _ _ => 0) ++ wP g q2 (fun _ _ => 0)) ++ wP g q3 (fun _ _ => 0)) ++ wT g q4 (fun _ _ => 0))) H := hP
  replace hD : va_D A ((h0, .inr (5, [.ref (q1 0), .ref (q2 0), .ref (q3 0), .int 0, .ref (q4 0), .null, .null, .null, .null, .null, .null])) :: (((wP g q1 (fun _ _ => 0) ++ wP g q2 (fun _ _ => 0)) ++ wP g q3 (fun _ _ => 0)) ++ wT g q4 (fun _ _ => 0))) := hD
  refine lv_aload_n hx hb dX5_init_48 rfl (lv_at hl 0 rfl) ?_
  refine lv_iconst (v := (4 : Int32)) hx hb dX5_init_49 (by decide) ?_
  refine va_newq (C := RX3) hx hb hown (hts (.classLink RX5 29 RX3) (List.mem_of_getElem? (i := 14) rfl)) hE.2.2 hK hP hD hS hA (by decide) rfl (Nat.le_of_ble_eq_true rfl) (Nat.le_of_ble_eq_true rfl) (Nat.le_of_ble_eq_true rfl) dX5_init_50 (fun a5 cA H hK1 hP hD hS => ?_)
  obtain rfl : cA = g.2 3 := newH hK1
  refine va_putF (D := g.1) (ci := 5) (v := .ref a5) (ty := .array (.object "OneFurrow$Sheet")) (C := RX5) (T := TX5) (N := 11) hx hb hts hinX5 tyX5 tyX5_ok nmX5 hown hK hP hD hS 0 rfl rfl 5 (by decide) (hts (.fieldLink RX5 31 "OneFurrow" "sheets" "[LOneFurrow$Sheet;") (List.mem_of_getElem? (i := 15) rfl)) (fun _ h9 => h9) rfl hname rfl (by decide +kernel) rfl rfl (Nat.le_of_ble_eq_true rfl) dX5_init_53 (fun H locs hP hD hS => ?_)
  replace hP : va_P g.1 vwCl ((h0, .inr (5, [.ref (q1 0), .ref (q2 0), .ref (q3 0), .int 0, .ref (q4 0), .ref a5, .null, .null, .null, .null, .null])) :: ((((wP g q1 (fun _ _ => 0) ++ wP g q2 (fun _ _ => 0)) ++ wP g q3 (fun _ _ => 0)) ++ wT g q4 (fun _ _ => 0)) ++ [(a5, .inl (g.2 3, 4, .inr (.inr (.inr (.inr (fun _ => none))))))])) H := hP
  replace hD : va_D A ((h0, .inr (5, [.ref (q1 0), .ref (q2 0), .ref (q3 0), .int 0, .ref (q4 0), .ref a5, .null, .null, .null, .null, .null])) :: ((((wP g q1 (fun _ _ => 0) ++ wP g q2 (fun _ _ => 0)) ++ wP g q3 (fun _ _ => 0)) ++ wT g q4 (fun _ _ => 0)) ++ [(a5, .inl (g.2 3, 4, .inr (.inr (.inr (.inr (fun _ => none))))))])) := hD
  refine lv_aload_n hx hb dX5_init_56 rfl (lv_at hl 0 rfl) ?_
  refine lv_bipush (v := (7 : Int32)) hx hb dX5_init_57 (by decide) ?_
  refine va_newa (atype := .int) (a0 := (7, .inl (fun _ => 0))) hx hb (hts (.arrayClass .int) (List.mem_of_getElem? (i := 16) rfl)) rfl hK hP hD hS hA (fun _ => rfl) (by decide) rfl (Nat.le_of_ble_eq_true rfl) (Nat.le_of_ble_eq_true rfl) (Nat.le_of_ble_eq_true rfl) dX5_init_59 (fun a6 cA H hK1 hP hD hS => ?_)
  obtain rfl : cA = g.2 0 := newI hK1
  refine va_putF (D := g.1) (ci := 5) (v := .ref a6) (ty := .array .int) (C := RX5) (T := TX5) (N := 11) hx hb hts hinX5 tyX5 tyX5_ok nmX5 hown hK hP hD hS 0 rfl rfl 6 (by decide) (hts (.fieldLink RX5 35 "OneFurrow" "findings" "[I") (List.mem_of_getElem? (i := 17) rfl)) (fun _ h9 => h9) rfl hname rfl (by decide +kernel) rfl rfl (Nat.le_of_ble_eq_true rfl) dX5_init_61 (fun H locs hP hD hS => ?_)
  replace hP : va_P g.1 vwCl ((h0, .inr (5, [.ref (q1 0), .ref (q2 0), .ref (q3 0), .int 0, .ref (q4 0), .ref a5, .ref a6, .null, .null, .null, .null])) :: (((((wP g q1 (fun _ _ => 0) ++ wP g q2 (fun _ _ => 0)) ++ wP g q3 (fun _ _ => 0)) ++ wT g q4 (fun _ _ => 0)) ++ [(a5, .inl (g.2 3, 4, .inr (.inr (.inr (.inr (fun _ => none))))))]) ++ [(a6, .inl (g.2 0, 7, .inl (fun _ => 0)))])) H := hP
  replace hD : va_D A ((h0, .inr (5, [.ref (q1 0), .ref (q2 0), .ref (q3 0), .int 0, .ref (q4 0), .ref a5, .ref a6, .null, .null, .null, .null])) :: (((((wP g q1 (fun _ _ => 0) ++ wP g q2 (fun _ _ => 0)) ++ wP g q3 (fun _ _ => 0)) ++ wT g q4 (fun _ _ => 0)) ++ [(a5, .inl (g.2 3, 4, .inr (.inr (.inr (.inr (fun _ => none))))))]) ++ [(a6, .inl (g.2 0, 7, .inl (fun _ => 0)))])) := hD
  refine lv_aload_n hx hb dX5_init_64 rfl (lv_at hl 0 rfl) ?_
  refine lv_bipush (v := (36 : Int32)) hx hb dX5_init_65 (by decide) ?_
  refine va_newq (C := RX0) hx hb hown (hts (.classLink RX5 39 RX0) (List.mem_of_getElem? (i := 18) rfl)) hE.2.1 hK hP hD hS hA (by decide) rfl (Nat.le_of_ble_eq_true rfl) (Nat.le_of_ble_eq_true rfl) (Nat.le_of_ble_eq_true rfl) dX5_init_67 (fun a7 cA H hK1 hP hD hS => ?_)
  obtain rfl : cA = g.2 2 := newFc hK1
  refine va_putF (D := g.1) (ci := 5) (v := .ref a7) (ty := .array (.object "OneFurrow$Furrows")) (C := RX5) (T := TX5) (N := 11) hx hb hts hinX5 tyX5 tyX5_ok nmX5 hown hK hP hD hS 0 rfl rfl 7 (by decide) (hts (.fieldLink RX5 41 "OneFurrow" "asked" "[LOneFurrow$Furrows;") (List.mem_of_getElem? (i := 19) rfl)) (fun _ h9 => h9) rfl hname rfl (by decide +kernel) rfl rfl (Nat.le_of_ble_eq_true rfl) dX5_init_70 (fun H locs hP hD hS => ?_)
  replace hP : va_P g.1 vwCl ((h0, .inr (5, [.ref (q1 0), .ref (q2 0), .ref (q3 0), .int 0, .ref (q4 0), .ref a5, .ref a6, .ref a7, .null, .null, .null])) :: ((((((wP g q1 (fun _ _ => 0) ++ wP g q2 (fun _ _ => 0)) ++ wP g q3 (fun _ _ => 0)) ++ wT g q4 (fun _ _ => 0)) ++ [(a5, .inl (g.2 3, 4, .inr (.inr (.inr (.inr (fun _ => none))))))]) ++ [(a6, .inl (g.2 0, 7, .inl (fun _ => 0)))]) ++ [(a7, .inl (g.2 2, 36, .inr (.inr (.inr (.inr (fun _ => none))))))])) H := hP
  replace hD : va_D A ((h0, .inr (5, [.ref (q1 0), .ref (q2 0), .ref (q3 0), .int 0, .ref (q4 0), .ref a5, .ref a6, .ref a7, .null, .null, .null])) :: ((((((wP g q1 (fun _ _ => 0) ++ wP g q2 (fun _ _ => 0)) ++ wP g q3 (fun _ _ => 0)) ++ wT g q4 (fun _ _ => 0)) ++ [(a5, .inl (g.2 3, 4, .inr (.inr (.inr (.inr (fun _ => none))))))]) ++ [(a6, .inl (g.2 0, 7, .inl (fun _ => 0)))]) ++ [(a7, .inl (g.2 2, 36, .inr (.inr (.inr (.inr (fun _ => none))))))])) := hD
  refine lv_aload_n hx hb dX5_init_73 rfl (lv_at hl 0 rfl) ?_
  refine va_new (ci := 0) (fs := [.int 0, .int 0, .int 0, .int 0, .int 0, .int 0, .int 0, .int 0, .null, .null, .null, .int 0, .int 0, .null]) (C := RX0) (T := TX0) (N := 14) hx hb hts hinX0 tyX0 tyX0_ok hown (hts (.classLink RX5 39 RX0) (List.mem_of_getElem? (i := 18) rfl)) (hts (.instantiable RX0 14) (List.mem_of_getElem? (i := 20) rfl)) (hts (.initialized RX0) (List.mem_of_getElem? (i := 21) rfl)) hK hP hD hS hA rfl (fun j hj => by match j, hj with | 0, _ => rfl | 1, _ => rfl | 2, _ => rfl | 3, _ => rfl | 4, _ => rfl | 5, _ => rfl | 6, _ => rfl | 7, _ => rfl | 8, _ => rfl | 9, _ => rfl | 10, _ => rfl | 11, _ => rfl | 12, _ => rfl | 13, _ => rfl | j + 14, hj => exact absurd hj (by omega)) (Nat.le_of_ble_eq_true rfl) (Nat.le_of_ble_eq_true rfl) dX5_init_74 (fun o8 H hP hD hS => ?_)
  refine lv_dup hx hb dX5_init_77 rfl ?_
  have hw : Wd g.1 A s.heap (((h0, .inr (5, [.ref (q1 0), .ref (q2 0), .ref (q3 0), .int 0, .ref (q4 0), .ref a5, .ref a6, .ref a7, .null, .null, .null])) :: ((((((wP g q1 (fun _ _ => 0) ++ wP g q2 (fun _ _ => 0)) ++ wP g q3 (fun _ _ => 0)) ++ wT g q4 (fun _ _ => 0)) ++ [(a5, .inl (g.2 3, 4, .inr (.inr (.inr (.inr (fun _ => none))))))]) ++ [(a6, .inl (g.2 0, 7, .inl (fun _ => 0)))]) ++ [(a7, .inl (g.2 2, 36, .inr (.inr (.inr (.inr (fun _ => none))))))])) ++ [(o8, .inr (0, [.int 0, .int 0, .int 0, .int 0, .int 0, .int 0, .int 0, .int 0, .null, .null, .null, .int 0, .int 0, .null]))]) H locs := ⟨hP, hD, hS⟩
  have hFc := (Sub1.last ((h0, .inr (5, [.ref (q1 0), .ref (q2 0), .ref (q3 0), .int 0, .ref (q4 0), .ref a5, .ref a6, .ref a7, .null, .null, .null])) :: ((((((wP g q1 (fun _ _ => 0) ++ wP g q2 (fun _ _ => 0)) ++ wP g q3 (fun _ _ => 0)) ++ wT g q4 (fun _ _ => 0)) ++ [(a5, .inl (g.2 3, 4, .inr (.inr (.inr (.inr (fun _ => none))))))]) ++ [(a6, .inl (g.2 0, 7, .inl (fun _ => 0)))]) ++ [(a7, .inl (g.2 2, 36, .inr (.inr (.inr (.inr (fun _ => none))))))])) (o8, .inr (0, [.int 0, .int 0, .int 0, .int 0, .int 0, .int 0, .int 0, .int 0, .null, .null, .null, .int 0, .int 0, .null]))).free hw.2.1 hw.2.2 hA
  refine va_callv (va_runIN (As := []) (rest := .ref o8 :: [.ref h0]) hC (iX0 l g o8 H.size) ⟨va_cnB 0 hts gX5_init_X0_init_n45 rfl rfl rfl hE.1.nMX5_45 (hts (.initialized RX0) (List.mem_of_getElem? (i := 21) rfl)) (by decide +kernel) ⟨(Nat.le_of_ble_eq_true rfl), (Nat.le_of_ble_eq_true rfl)⟩, rfl, (hts (.instanceMethod yX0_init) (List.mem_of_getElem? (i := 41) rfl))⟩ (mpre E0_ok hK trivial hA hw (Sub1.last _ _)) rfl rfl hl.1 rfl (lv_room (Nat.le_of_ble_eq_true rfl)) dX5_init_78 ⟨(Nat.le_of_ble_eq_true rfl), (Nat.le_of_ble_eq_true rfl)⟩) hS (fun q _ h => hFc q h) hFc (fun q8 t H1 locs1 ht hvm hp hB hz hk hS => ?_)
  replace hw := mjoin hw hk hFc (by rw [← ht]; exact hB.1) hB.2.2 hS
  replace hp : q8 0 = o8 := hp
  subst hp
  clear hP hD hS
  obtain ⟨hP, hD, hS⟩ := hw
  generalize H1 = H at hP hS ⊢
  generalize locs1 = locs at hS ⊢
  refine va_putF (D := g.1) (ci := 5) (v := .ref (q8 0)) (ty := .object "OneFurrow$Furrows") (C := RX5) (T := TX5) (N := 11) hx hb hts hinX5 tyX5 tyX5_ok nmX5 hown hK hP hD hS 0 rfl rfl 8 (by decide) (hts (.fieldLink RX5 46 "OneFurrow" "trial" "LOneFurrow$Furrows;") (List.mem_of_getElem? (i := 22) rfl)) (fun _ h9 => h9) rfl hname rfl (by decide +kernel) rfl rfl (Nat.le_of_ble_eq_true rfl) dX5_init_81 (fun H locs hP hD hS => ?_)
  replace hP : va_P g.1 vwCl ((h0, .inr (5, [.ref (q1 0), .ref (q2 0), .ref (q3 0), .int 0, .ref (q4 0), .ref a5, .ref a6, .ref a7, .ref (q8 0), .null, .null])) :: (((((((wP g q1 (fun _ _ => 0) ++ wP g q2 (fun _ _ => 0)) ++ wP g q3 (fun _ _ => 0)) ++ wT g q4 (fun _ _ => 0)) ++ [(a5, .inl (g.2 3, 4, .inr (.inr (.inr (.inr (fun _ => none))))))]) ++ [(a6, .inl (g.2 0, 7, .inl (fun _ => 0)))]) ++ [(a7, .inl (g.2 2, 36, .inr (.inr (.inr (.inr (fun _ => none))))))]) ++ wF g q8 (up (fun _ _ => 0) 0 0 (-1)))) H := hP
  replace hD : va_D A ((h0, .inr (5, [.ref (q1 0), .ref (q2 0), .ref (q3 0), .int 0, .ref (q4 0), .ref a5, .ref a6, .ref a7, .ref (q8 0), .null, .null])) :: (((((((wP g q1 (fun _ _ => 0) ++ wP g q2 (fun _ _ => 0)) ++ wP g q3 (fun _ _ => 0)) ++ wT g q4 (fun _ _ => 0)) ++ [(a5, .inl (g.2 3, 4, .inr (.inr (.inr (.inr (fun _ => none))))))]) ++ [(a6, .inl (g.2 0, 7, .inl (fun _ => 0)))]) ++ [(a7, .inl (g.2 2, 36, .inr (.inr (.inr (.inr (fun _ => none))))))]) ++ wF g q8 (up (fun _ _ => 0) 0 0 (-1)))) := hD
  refine lv_aload_n hx hb dX5_init_84 rfl (lv_at hl 0 rfl) ?_
  refine va_new (ci := 2) (fs := [.int 0, .null, .null, .null, .null, .int 0, .int 0, .int 0, .int 0, .null, .null, .null, .null]) (C := RX2) (T := TX2) (N := 13) hx hb hts hinX2 tyX2 tyX2_ok hown (hts (.classLink RX5 50 RX2) (List.mem_of_getElem? (i := 23) rfl)) (hts (.instantiable RX2 13) (List.mem_of_getElem? (i := 24) rfl)) (hts (.initialized RX2) (List.mem_of_getElem? (i := 25) rfl)) hK hP hD hS hA rfl (fun j hj => by match j, hj with | 0, _ => rfl | 1, _ => rfl | 2, _ => rfl | 3, _ => rfl | 4, _ => rfl | 5, _ => rfl | 6, _ => rfl | 7, _ => rfl | 8, _ => rfl | 9, _ => rfl | 10, _ => rfl | 11, _ => rfl | 12, _ => rfl | j + 13, hj => exact absurd hj (by omega)) (Nat.le_of_ble_eq_true rfl) (Nat.le_of_ble_eq_true rfl) dX5_init_85 (fun o9 H hP hD hS => ?_)
  refine lv_dup hx hb dX5_init_88 rfl ?_
  have hw : Wd g.1 A s.heap (((h0, .inr (5, [.ref (q1 0), .ref (q2 0), .ref (q3 0), .int 0, .ref (q4 0), .ref a5, .ref a6, .ref a7, .ref (q8 0), .null, .null])) :: (((((((wP g q1 (fun _ _ => 0) ++ wP g q2 (fun _ _ => 0)) ++ wP g q3 (fun _ _ => 0)) ++ wT g q4 (fun _ _ => 0)) ++ [(a5, .inl (g.2 3, 4, .inr (.inr (.inr (.inr (fun _ => none))))))]) ++ [(a6, .inl (g.2 0, 7, .inl (fun _ => 0)))]) ++ [(a7, .inl (g.2 2, 36, .inr (.inr (.inr (.inr (fun _ => none))))))]) ++ wF g q8 (up (fun _ _ => 0) 0 0 (-1)))) ++ [(o9, .inr (2, [.int 0, .null, .null, .null, .null, .int 0, .int 0, .int 0, .int 0, .null, .null, .null, .null]))]) H locs := ⟨hP, hD, hS⟩
  have hFc := (Sub1.last ((h0, .inr (5, [.ref (q1 0), .ref (q2 0), .ref (q3 0), .int 0, .ref (q4 0), .ref a5, .ref a6, .ref a7, .ref (q8 0), .null, .null])) :: (((((((wP g q1 (fun _ _ => 0) ++ wP g q2 (fun _ _ => 0)) ++ wP g q3 (fun _ _ => 0)) ++ wT g q4 (fun _ _ => 0)) ++ [(a5, .inl (g.2 3, 4, .inr (.inr (.inr (.inr (fun _ => none))))))]) ++ [(a6, .inl (g.2 0, 7, .inl (fun _ => 0)))]) ++ [(a7, .inl (g.2 2, 36, .inr (.inr (.inr (.inr (fun _ => none))))))]) ++ wF g q8 (up (fun _ _ => 0) 0 0 (-1)))) (o9, .inr (2, [.int 0, .null, .null, .null, .null, .int 0, .int 0, .int 0, .int 0, .null, .null, .null, .null]))).free hw.2.1 hw.2.2 hA
  refine va_callv (va_runIN (As := []) (rest := .ref o9 :: [.ref h0]) hC (iX2 l g o9 H.size) ⟨va_cnB 0 hts gX5_init_X2_init_n52 rfl rfl rfl hE.1.nMX5_52 (hts (.initialized RX2) (List.mem_of_getElem? (i := 25) rfl)) (by decide +kernel) ⟨(Nat.le_of_ble_eq_true rfl), (Nat.le_of_ble_eq_true rfl)⟩, rfl, (hts (.instanceMethod yX2_init) (List.mem_of_getElem? (i := 49) rfl))⟩ (mpre E0_ok hK trivial hA hw (Sub1.last _ _)) rfl rfl hl.1 rfl (lv_room (Nat.le_of_ble_eq_true rfl)) dX5_init_89 ⟨(Nat.le_of_ble_eq_true rfl), (Nat.le_of_ble_eq_true rfl)⟩) hS (fun q _ h => hFc q h) hFc (fun q9 t H1 locs1 ht hvm hp hB hz hk hS => ?_)
  replace hw := mjoin hw hk hFc (by rw [← ht]; exact hB.1) hB.2.2 hS
  replace hp : q9 0 = o9 := hp
  subst hp
  clear hP hD hS
  obtain ⟨hP, hD, hS⟩ := hw
  generalize H1 = H at hP hS ⊢
  generalize locs1 = locs at hS ⊢
  refine va_putF (D := g.1) (ci := 5) (v := .ref (q9 0)) (ty := .object "OneFurrow$Rows") (C := RX5) (T := TX5) (N := 11) hx hb hts hinX5 tyX5 tyX5_ok nmX5 hown hK hP hD hS 0 rfl rfl 9 (by decide) (hts (.fieldLink RX5 53 "OneFurrow" "rows" "LOneFurrow$Rows;") (List.mem_of_getElem? (i := 26) rfl)) (fun _ h9 => h9) rfl hname rfl (by decide +kernel) rfl rfl (Nat.le_of_ble_eq_true rfl) dX5_init_92 (fun H locs hP hD hS => ?_)
  replace hP : va_P g.1 vwCl ((h0, .inr (5, [.ref (q1 0), .ref (q2 0), .ref (q3 0), .int 0, .ref (q4 0), .ref a5, .ref a6, .ref a7, .ref (q8 0), .ref (q9 0), .null])) :: ((((((((wP g q1 (fun _ _ => 0) ++ wP g q2 (fun _ _ => 0)) ++ wP g q3 (fun _ _ => 0)) ++ wT g q4 (fun _ _ => 0)) ++ [(a5, .inl (g.2 3, 4, .inr (.inr (.inr (.inr (fun _ => none))))))]) ++ [(a6, .inl (g.2 0, 7, .inl (fun _ => 0)))]) ++ [(a7, .inl (g.2 2, 36, .inr (.inr (.inr (.inr (fun _ => none))))))]) ++ wF g q8 (up (fun _ _ => 0) 0 0 (-1))) ++ wR g q9 (fun _ _ => 0))) H := hP
  replace hD : va_D A ((h0, .inr (5, [.ref (q1 0), .ref (q2 0), .ref (q3 0), .int 0, .ref (q4 0), .ref a5, .ref a6, .ref a7, .ref (q8 0), .ref (q9 0), .null])) :: ((((((((wP g q1 (fun _ _ => 0) ++ wP g q2 (fun _ _ => 0)) ++ wP g q3 (fun _ _ => 0)) ++ wT g q4 (fun _ _ => 0)) ++ [(a5, .inl (g.2 3, 4, .inr (.inr (.inr (.inr (fun _ => none))))))]) ++ [(a6, .inl (g.2 0, 7, .inl (fun _ => 0)))]) ++ [(a7, .inl (g.2 2, 36, .inr (.inr (.inr (.inr (fun _ => none))))))]) ++ wF g q8 (up (fun _ _ => 0) 0 0 (-1))) ++ wR g q9 (fun _ _ => 0))) := hD
  refine lv_aload_n hx hb dX5_init_95 rfl (lv_at hl 0 rfl) ?_
  refine lv_bipush (v := (6 : Int32)) hx hb dX5_init_96 (by decide) ?_
  refine va_newa (atype := .int) (a0 := (6, .inl (fun _ => 0))) hx hb (hts (.arrayClass .int) (List.mem_of_getElem? (i := 16) rfl)) rfl hK hP hD hS hA (fun _ => rfl) (by decide) rfl (Nat.le_of_ble_eq_true rfl) (Nat.le_of_ble_eq_true rfl) (Nat.le_of_ble_eq_true rfl) dX5_init_98 (fun a10 cA H hK1 hP hD hS => ?_)
  obtain rfl : cA = g.2 0 := newI hK1
  refine va_putF (D := g.1) (ci := 5) (v := .ref a10) (ty := .array .int) (C := RX5) (T := TX5) (N := 11) hx hb hts hinX5 tyX5 tyX5_ok nmX5 hown hK hP hD hS 0 rfl rfl 10 (by decide) (hts (.fieldLink RX5 57 "OneFurrow" "toldRow" "[I") (List.mem_of_getElem? (i := 27) rfl)) (fun _ h9 => h9) rfl hname rfl (by decide +kernel) rfl rfl (Nat.le_of_ble_eq_true rfl) dX5_init_100 (fun H locs hP hD hS => ?_)
  replace hP : va_P g.1 vwCl ((h0, .inr (5, [.ref (q1 0), .ref (q2 0), .ref (q3 0), .int 0, .ref (q4 0), .ref a5, .ref a6, .ref a7, .ref (q8 0), .ref (q9 0), .ref a10])) :: (((((((((wP g q1 (fun _ _ => 0) ++ wP g q2 (fun _ _ => 0)) ++ wP g q3 (fun _ _ => 0)) ++ wT g q4 (fun _ _ => 0)) ++ [(a5, .inl (g.2 3, 4, .inr (.inr (.inr (.inr (fun _ => none))))))]) ++ [(a6, .inl (g.2 0, 7, .inl (fun _ => 0)))]) ++ [(a7, .inl (g.2 2, 36, .inr (.inr (.inr (.inr (fun _ => none))))))]) ++ wF g q8 (up (fun _ _ => 0) 0 0 (-1))) ++ wR g q9 (fun _ _ => 0)) ++ [(a10, .inl (g.2 0, 6, .inl (fun _ => 0)))])) H := hP
  replace hD : va_D A ((h0, .inr (5, [.ref (q1 0), .ref (q2 0), .ref (q3 0), .int 0, .ref (q4 0), .ref a5, .ref a6, .ref a7, .ref (q8 0), .ref (q9 0), .ref a10])) :: (((((((((wP g q1 (fun _ _ => 0) ++ wP g q2 (fun _ _ => 0)) ++ wP g q3 (fun _ _ => 0)) ++ wT g q4 (fun _ _ => 0)) ++ [(a5, .inl (g.2 3, 4, .inr (.inr (.inr (.inr (fun _ => none))))))]) ++ [(a6, .inl (g.2 0, 7, .inl (fun _ => 0)))]) ++ [(a7, .inl (g.2 2, 36, .inr (.inr (.inr (.inr (fun _ => none))))))]) ++ wF g q8 (up (fun _ _ => 0) 0 0 (-1))) ++ wR g q9 (fun _ _ => 0)) ++ [(a10, .inl (g.2 0, 6, .inl (fun _ => 0)))])) := hD
  refine lv_iconst (v := (0 : Int32)) hx hb dX5_init_103 (by decide) ?_
  refine lv_istore_n (lv' := [(1, .int (0 : Int32)), (0, .ref h0)]) hx hb dX5_init_104 rfl hl (by decide) rfl (fun ls hl => ?_)
  refine W.widen (k := 35 + 5 * 0) (n := 498 + 78 * 0) (by decide) (by decide) ?_
  refine iX5_loopF (q1 := q1) (q2 := q2) (q3 := q3) (q4 := q4) (q8 := q8) (q9 := q9) (a5 := a5) (a6 := a6) (a7 := a7) (a10 := a10) hC hr hlocks hA hK hE 37 0 (fun _ _ => 0) (fun _ _ => 0) H locs ls (by omega) (by omega) ?_ hl
  have e0 : flF g 0 (fun _ _ => 0) = [] := rfl
  rw [e0, List.append_nil, fo_0]
  exact ⟨hP, hD, hS⟩
