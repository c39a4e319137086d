section
variable {p : Program} {l : Launch} {e : Env} {R : Room} {s : State} {m : MethodId} {args : Array Value} {below : List Frame} {meth : Method} {c : Code} {H : Heap} {locs : List Loc} {Q : State → Prop} {cells slots : Nat}
variable {cc : ByteArray} {pc nL : Nat} {ls : Array Slot} {rest : List Value} {A : Nat → Prop} {Ts : List Cond} {own : String} {g : Gl} {E : En} {ws : va_W}
theorem lcalli {S : Type} {wc w1 : S → va_W} {u : S} {post : Int32 → S → Prop} {a : Array Value} {st0 : List Value} (hr : va_Run p l e R s m args below meth c H locs cells slots 0 0 (F0 m pc ls st0) rest (va_Qi post (wB g wc (va_A (wc u) H.size)) (va_A (wc u) H.size) a) (va_A (wc u) H.size)) (hA : ∀ q, s.heap.size ≤ q → A q) (hw : Wd g.1 A s.heap ws H locs) (hs1 : Sub1 ws (wc u)) (hs : ∀ u1, Sub ws (wc u) (w1 u1) (wc u1))
    (kk : ∀ (r : Int32) (u1 : S) (H1 : Heap) (locs1 : List Loc), post r u1 → Wd g.1 A s.heap (w1 u1) H1 locs1 → W p l e R s m args below meth c H1 locs1 cells slots Q (F0 m (pc + 3) ls (.int r :: rest))) : W p l e R s m args below meth c H locs cells slots Q (F0 m pc ls st0) := by
  have hf := hs1.free hw.2.1 hw.2.2 hA
  exact va_calli hr hw.2.2 (fun q _ h => hf q h) hf (fun r u1 t H1 locs1 ht hvm hp hB hz hk hS => kk r u1 H1 locs1 hp (mback hw (hs u1) ht hB hk hS))
theorem lcalll {S : Type} {wc w1 : S → va_W} {u : S} {post : Int64 → S → Prop} {a : Array Value} {st0 : List Value} (hr : va_Run p l e R s m args below meth c H locs cells slots 0 0 (F0 m pc ls st0) rest (va_Ql post (wB g wc (va_A (wc u) H.size)) (va_A (wc u) H.size) a) (va_A (wc u) H.size)) (hA : ∀ q, s.heap.size ≤ q → A q) (hw : Wd g.1 A s.heap ws H locs) (hs1 : Sub1 ws (wc u)) (hs : ∀ u1, Sub ws (wc u) (w1 u1) (wc u1))
    (kk : ∀ (r : Int64) (u1 : S) (H1 : Heap) (locs1 : List Loc), post r u1 → Wd g.1 A s.heap (w1 u1) H1 locs1 → W p l e R s m args below meth c H1 locs1 cells slots Q (F0 m (pc + 3) ls (.long r :: rest))) : W p l e R s m args below meth c H locs cells slots Q (F0 m pc ls st0) := by
  have hf := hs1.free hw.2.1 hw.2.2 hA
  exact va_calll hr hw.2.2 (fun q _ h => hf q h) hf (fun r u1 t H1 locs1 ht hvm hp hB hz hk hS => kk r u1 H1 locs1 hp (mback hw (hs u1) ht hB hk hS))
theorem lg_self (x : Int64) : lg_cmp x x = 0 := by unfold lg_cmp; simp
theorem sLCat {g : Gl} {q : Nat → Nat → Nat} {u : (Nat → Bun) × (Nat → Lon)} {Y : va_W} (u9 : (Nat → Bun) × (Nat → Lon)) : Sub (wC g q u ++ Y) (wC g q u) (wC g q u9 ++ Y) (wC g q u9) := (mid_sub (X := []) (w := wC g q u) (w' := wC g q u9) (Y := Y) (wC_map (C := u.1) (N := u.2) u9.1 u9.2)).sub
theorem sLC1 {g : Gl} {q : Nat → Nat → Nat} {u : (Nat → Bun) × (Nat → Lon)} {Y : va_W} : Sub1 (wC g q u ++ Y) (wC g q u) := ⟨_, nd_range' _ _, mid_map [] (wC g q u) Y⟩
theorem sLC {g : Gl} {q : Nat → Nat → Nat} {u : (Nat → Bun) × (Nat → Lon)} {Y : va_W} (u9 : (Nat → Bun) × (Nat → Lon)) : Sub (wC g q u ++ Y) (wC g q u) (wC g q u9 ++ Y) (wC g q u9) := sLCat u9
theorem sLM1 {g : Gl} {q : Nat → Nat} {u : Bun × Lon} {X : va_W} : Sub1 (X ++ wM g q u) (wM g q u) := ⟨_, nd_range' _ _, by have h := mid_map X (wM g q u) []; rw [List.append_nil] at h; exact h⟩
theorem sLM {g : Gl} {q : Nat → Nat} {u : Bun × Lon} {X : va_W} (u9 : Bun × Lon) : Sub (X ++ wM g q u) (wM g q u) (X ++ wM g q u9) (wM g q u9) := by
  have h := (mid_sub (X := X) (w := wM g q u) (w' := wM g q u9) (Y := []) rfl).sub
  rw [List.append_nil, List.append_nil] at h
  exact h
end
set_option maxRecDepth 100000 in
set_option maxHeartbeats 4000000 in
theorem law_field {p : Program} {l : Launch} {e : Env} {s : State} {m : MethodId} {args : Array Value} {below : List Frame} {meth : Method} {c : Code} {A : Nat → Prop} {Q : State → Prop} {g : Gl} {aK aV : Nat → Nat} {q : Nat → Nat → Nat} {q6 : Nat → Nat} {b L i : Nat} {xs : Nat → Int32} {Inv : (Nat → Bun) → (Nat → Lon) → Bun → Lon → Prop} {C : Nat → Bun} {N : Nat → Lon} {S : Bun} {J : Lon} {H : Heap} {locs : List Loc} {ls : Array Slot} (hC : CallFix p m c cL_law 4 s args wsL_law RL) (hA : ∀ q : Nat, s.heap.size ≤ q → A q) (hK : va_K g.1 vwCl (tysG g.2) s) (hE : E5 aK aV A s) (hX : va_X b L xs s s.heap) (hbl : b < s.heap.size) (hbA : ¬ A b) (hi : i + 7 ≤ L) (hL : L ≤ 448) (ho : lo_field Inv) (hI : Inv C N S J) (hw : Wd g.1 A s.heap (wC g q (C, N) ++ wM g q6 (S, J)) H locs) (hl : lv_has ls 4 [(0, .ref b), (1, .ref (q 0 0)), (2, .ref (q6 0)), (3, .int (nI i))]) (kk : ∀ (C : Nat → Bun) (N : Nat → Lon) (S : Bun) (J : Lon) (H : Heap) (locs : List Loc), Inv C N S J → Wd g.1 A s.heap (wC g q (C, N) ++ wM g q6 (S, J)) H locs → W p l e room_1 s m args below meth c H locs 244 4135 Q (F0 m 1442 ls [])) : W p l e room_1 s m args below meth c H locs 244 4135 Q (F0 m 196 ls []) := by
  obtain ⟨hx, hb, -, hown, hts⟩ := id hC
  have hi1 : vp_in (nI i + (1 : Int32)) L := by rw [show (nI i + (1 : Int32)) = nI (i + 1) from nI_add i 1]; exact vp_in_nI (by omega) (by omega)
  have hi2 : vp_in (nI i + (2 : Int32)) L := by rw [show (nI i + (2 : Int32)) = nI (i + 2) from nI_add i 2]; exact vp_in_nI (by omega) (by omega)
  have hi3 : vp_in (nI i + (3 : Int32)) L := by rw [show (nI i + (3 : Int32)) = nI (i + 3) from nI_add i 3]; exact vp_in_nI (by omega) (by omega)
  have hi4 : vp_in (nI i + (4 : Int32)) L := by rw [show (nI i + (4 : Int32)) = nI (i + 4) from nI_add i 4]; exact vp_in_nI (by omega) (by omega)
  have hi5 : vp_in (nI i + (5 : Int32)) L := by rw [show (nI i + (5 : Int32)) = nI (i + 5) from nI_add i 5]; exact vp_in_nI (by omega) (by omega)
  have hi6 : vp_in (nI i + (6 : Int32)) L := by rw [show (nI i + (6 : Int32)) = nI (i + 6) from nI_add i 6]; exact vp_in_nI (by omega) (by omega)
  refine lv_aload_n hx hb dL_law_196 rfl (lv_at hl 1 rfl) ?_
  have h := ho C N S J  hI
  refine lcalli (w1 := (fun u9 => wC g q u9 ++ wM g q6 (S, J))) (va_runV (As := []) (rest := []) hC (kX5_field l g aK aV q H.size C N  _ h) (cwV 0 hts gL_law_X5_field rfl rfl rfl (by decide +kernel) ⟨Nat.le_of_ble_eq_true rfl, Nat.le_of_ble_eq_true rfl⟩) (mpreV (E5_ok aK aV) hK hE hA hw sLC1 0 rfl rfl) rfl rfl hl.1 rfl (lv_room (Nat.le_of_ble_eq_true rfl)) dL_law_197 ⟨Nat.le_of_ble_eq_true rfl, Nat.le_of_ble_eq_true rfl⟩) hA hw sLC1 (fun u9 => sLC u9) (fun r1 u2 H locs h hw => ?_)
  obtain ⟨C1, N1⟩ := u2
  obtain ⟨hu, h⟩ := h
  replace hu : N = N1 := hu.symm
  subst hu
  refine lv_aload_n hx hb dL_law_200 rfl (lv_at hl 2 rfl) ?_
  refine lcalli (w1 := (fun u9 => wC g q (C1, N) ++ wM g q6 u9)) (va_runV (As := []) (rest := [.int r1]) hC (kX6_field l g q6 H.size S J  _ h) (cwV 0 hts gL_law_X6_field rfl rfl rfl (by decide +kernel) ⟨Nat.le_of_ble_eq_true rfl, Nat.le_of_ble_eq_true rfl⟩) (mpreV E0_ok hK trivial hA hw sLM1 0 rfl rfl) rfl rfl hl.1 rfl (lv_room (Nat.le_of_ble_eq_true rfl)) dL_law_201 ⟨Nat.le_of_ble_eq_true rfl, Nat.le_of_ble_eq_true rfl⟩) hA hw sLM1 (fun u9 => sLM u9) (fun r3 u4 H locs h hw => ?_)
  obtain ⟨S1, J1⟩ := u4
  obtain ⟨hu, h⟩ := h
  replace hu : J = J1 := hu.symm
  subst hu
  refine lv_icmp_eq (tgt := 1442) hx hb dL_law_204 (by decide) (fun c => ?_) (fun c => absurd h.1 c)
  exact kk C1 N S1 J _ _ h.2 hw
set_option maxRecDepth 100000 in
set_option maxHeartbeats 4000000 in
theorem law_of {p : Program} {l : Launch} {e : Env} {s : State} {m : MethodId} {args : Array Value} {below : List Frame} {meth : Method} {c : Code} {A : Nat → Prop} {Q : State → Prop} {g : Gl} {aK aV : Nat → Nat} {q : Nat → Nat → Nat} {q6 : Nat → Nat} {b L i : Nat} {xs : Nat → Int32} {Inv : (Nat → Bun) → (Nat → Lon) → Bun → Lon → Prop} {C : Nat → Bun} {N : Nat → Lon} {S : Bun} {J : Lon} {H : Heap} {locs : List Loc} {ls : Array Slot} (hC : CallFix p m c cL_law 4 s args wsL_law RL) (hA : ∀ q : Nat, s.heap.size ≤ q → A q) (hK : va_K g.1 vwCl (tysG g.2) s) (hE : E5 aK aV A s) (hX : va_X b L xs s s.heap) (hbl : b < s.heap.size) (hbA : ¬ A b) (hi : i + 7 ≤ L) (hL : L ≤ 448) (ho : lo_of Inv) (hI : Inv C N S J) (hw : Wd g.1 A s.heap (wC g q (C, N) ++ wM g q6 (S, J)) H locs) (hl : lv_has ls 4 [(0, .ref b), (1, .ref (q 0 0)), (2, .ref (q6 0)), (3, .int (nI i))]) (kk : ∀ (C : Nat → Bun) (N : Nat → Lon) (S : Bun) (J : Lon) (H : Heap) (locs : List Loc), Inv C N S J → Wd g.1 A s.heap (wC g q (C, N) ++ wM g q6 (S, J)) H locs → W p l e room_1 s m args below meth c H locs 244 4135 Q (F0 m 1442 ls [])) : W p l e room_1 s m args below meth c H locs 244 4135 Q (F0 m 209 ls []) := by
  obtain ⟨hx, hb, -, hown, hts⟩ := id hC
  have hi1 : vp_in (nI i + (1 : Int32)) L := by rw [show (nI i + (1 : Int32)) = nI (i + 1) from nI_add i 1]; exact vp_in_nI (by omega) (by omega)
  have hi2 : vp_in (nI i + (2 : Int32)) L := by rw [show (nI i + (2 : Int32)) = nI (i + 2) from nI_add i 2]; exact vp_in_nI (by omega) (by omega)
  have hi3 : vp_in (nI i + (3 : Int32)) L := by rw [show (nI i + (3 : Int32)) = nI (i + 3) from nI_add i 3]; exact vp_in_nI (by omega) (by omega)
  have hi4 : vp_in (nI i + (4 : Int32)) L := by rw [show (nI i + (4 : Int32)) = nI (i + 4) from nI_add i 4]; exact vp_in_nI (by omega) (by omega)
  have hi5 : vp_in (nI i + (5 : Int32)) L := by rw [show (nI i + (5 : Int32)) = nI (i + 5) from nI_add i 5]; exact vp_in_nI (by omega) (by omega)
  have hi6 : vp_in (nI i + (6 : Int32)) L := by rw [show (nI i + (6 : Int32)) = nI (i + 6) from nI_add i 6]; exact vp_in_nI (by omega) (by omega)
  refine lv_aload_n hx hb dL_law_209 rfl (lv_at hl 1 rfl) ?_
  refine lv_aload_n hx hb dL_law_210 rfl (lv_at hl 0 rfl) ?_
  refine lv_iload_n hx hb dL_law_211 rfl (lv_at hl 3 rfl) ?_
  refine lv_iconst (v := (1 : Int32)) hx hb dL_law_212 (by decide) ?_
  refine lv_iadd hx hb dL_law_213 ?_
  refine va_sld hx hb hX hbl hbA hw.2.2 hi1 dL_law_214 ?_
  refine lv_aload_n hx hb dL_law_215 rfl (lv_at hl 0 rfl) ?_
  refine lv_iload_n hx hb dL_law_216 rfl (lv_at hl 3 rfl) ?_
  refine lv_iconst (v := (2 : Int32)) hx hb dL_law_217 (by decide) ?_
  refine lv_iadd hx hb dL_law_218 ?_
  refine va_sld hx hb hX hbl hbA hw.2.2 hi2 dL_law_219 ?_
  have h := ho C N S J (xs ((nI i) + (1 : Int32)).toNatClampNeg) (xs ((nI i) + (2 : Int32)).toNatClampNeg) hI
  refine lcalli (w1 := (fun u9 => wC g q u9 ++ wM g q6 (S, J))) (va_runV (As := [.int (xs ((nI i) + (1 : Int32)).toNatClampNeg), .int (xs ((nI i) + (2 : Int32)).toNatClampNeg)]) (rest := []) hC (kX5_of l g aK aV q H.size C N (xs ((nI i) + (1 : Int32)).toNatClampNeg) (xs ((nI i) + (2 : Int32)).toNatClampNeg) _ h) (cwV 2 hts gL_law_X5_of rfl rfl rfl (by decide +kernel) ⟨Nat.le_of_ble_eq_true rfl, Nat.le_of_ble_eq_true rfl⟩) (mpreV (E5_ok aK aV) hK hE hA hw sLC1 0 rfl rfl) rfl rfl hl.1 rfl (lv_room (Nat.le_of_ble_eq_true rfl)) dL_law_220 ⟨Nat.le_of_ble_eq_true rfl, Nat.le_of_ble_eq_true rfl⟩) hA hw sLC1 (fun u9 => sLC u9) (fun r1 u2 H locs h hw => ?_)
  obtain ⟨C1, N1⟩ := u2
  obtain ⟨hu, h⟩ := h
  replace hu : N = N1 := hu.symm
  subst hu
  refine lv_aload_n hx hb dL_law_223 rfl (lv_at hl 2 rfl) ?_
  refine lv_aload_n hx hb dL_law_224 rfl (lv_at hl 0 rfl) ?_
  refine lv_iload_n hx hb dL_law_225 rfl (lv_at hl 3 rfl) ?_
  refine lv_iconst (v := (1 : Int32)) hx hb dL_law_226 (by decide) ?_
  refine lv_iadd hx hb dL_law_227 ?_
  refine va_sld hx hb hX hbl hbA hw.2.2 hi1 dL_law_228 ?_
  refine lv_aload_n hx hb dL_law_229 rfl (lv_at hl 0 rfl) ?_
  refine lv_iload_n hx hb dL_law_230 rfl (lv_at hl 3 rfl) ?_
  refine lv_iconst (v := (2 : Int32)) hx hb dL_law_231 (by decide) ?_
  refine lv_iadd hx hb dL_law_232 ?_
  refine va_sld hx hb hX hbl hbA hw.2.2 hi2 dL_law_233 ?_
  refine lcalli (w1 := (fun u9 => wC g q (C1, N) ++ wM g q6 u9)) (va_runV (As := [.int (xs ((nI i) + (1 : Int32)).toNatClampNeg), .int (xs ((nI i) + (2 : Int32)).toNatClampNeg)]) (rest := [.int r1]) hC (kX6_of l g q6 H.size S J (xs ((nI i) + (1 : Int32)).toNatClampNeg) (xs ((nI i) + (2 : Int32)).toNatClampNeg) _ h) (cwV 2 hts gL_law_X6_of rfl rfl rfl (by decide +kernel) ⟨Nat.le_of_ble_eq_true rfl, Nat.le_of_ble_eq_true rfl⟩) (mpreV E0_ok hK trivial hA hw sLM1 0 rfl rfl) rfl rfl hl.1 rfl (lv_room (Nat.le_of_ble_eq_true rfl)) dL_law_234 ⟨Nat.le_of_ble_eq_true rfl, Nat.le_of_ble_eq_true rfl⟩) hA hw sLM1 (fun u9 => sLM u9) (fun r3 u4 H locs h hw => ?_)
  obtain ⟨S1, J1⟩ := u4
  obtain ⟨hu, h⟩ := h
  replace hu : J = J1 := hu.symm
  subst hu
  refine lv_icmp_eq (tgt := 1442) hx hb dL_law_237 (by decide) (fun c => ?_) (fun c => absurd h.1 c)
  exact kk C1 N S1 J _ _ h.2 hw
set_option maxRecDepth 100000 in
set_option maxHeartbeats 4000000 in
theorem law_set {p : Program} {l : Launch} {e : Env} {s : State} {m : MethodId} {args : Array Value} {below : List Frame} {meth : Method} {c : Code} {A : Nat → Prop} {Q : State → Prop} {g : Gl} {aK aV : Nat → Nat} {q : Nat → Nat → Nat} {q6 : Nat → Nat} {b L i : Nat} {xs : Nat → Int32} {Inv : (Nat → Bun) → (Nat → Lon) → Bun → Lon → Prop} {C : Nat → Bun} {N : Nat → Lon} {S : Bun} {J : Lon} {H : Heap} {locs : List Loc} {ls : Array Slot} (hC : CallFix p m c cL_law 4 s args wsL_law RL) (hA : ∀ q : Nat, s.heap.size ≤ q → A q) (hK : va_K g.1 vwCl (tysG g.2) s) (hE : E5 aK aV A s) (hX : va_X b L xs s s.heap) (hbl : b < s.heap.size) (hbA : ¬ A b) (hi : i + 7 ≤ L) (hL : L ≤ 448) (ho : lo_set Inv) (hI : Inv C N S J) (hw : Wd g.1 A s.heap (wC g q (C, N) ++ wM g q6 (S, J)) H locs) (hl : lv_has ls 4 [(0, .ref b), (1, .ref (q 0 0)), (2, .ref (q6 0)), (3, .int (nI i))]) (kk : ∀ (C : Nat → Bun) (N : Nat → Lon) (S : Bun) (J : Lon) (H : Heap) (locs : List Loc), Inv C N S J → Wd g.1 A s.heap (wC g q (C, N) ++ wM g q6 (S, J)) H locs → W p l e room_1 s m args below meth c H locs 244 4135 Q (F0 m 1442 ls [])) : W p l e room_1 s m args below meth c H locs 244 4135 Q (F0 m 242 ls []) := by
  obtain ⟨hx, hb, -, hown, hts⟩ := id hC
  have hi1 : vp_in (nI i + (1 : Int32)) L := by rw [show (nI i + (1 : Int32)) = nI (i + 1) from nI_add i 1]; exact vp_in_nI (by omega) (by omega)
  have hi2 : vp_in (nI i + (2 : Int32)) L := by rw [show (nI i + (2 : Int32)) = nI (i + 2) from nI_add i 2]; exact vp_in_nI (by omega) (by omega)
  have hi3 : vp_in (nI i + (3 : Int32)) L := by rw [show (nI i + (3 : Int32)) = nI (i + 3) from nI_add i 3]; exact vp_in_nI (by omega) (by omega)
  have hi4 : vp_in (nI i + (4 : Int32)) L := by rw [show (nI i + (4 : Int32)) = nI (i + 4) from nI_add i 4]; exact vp_in_nI (by omega) (by omega)
  have hi5 : vp_in (nI i + (5 : Int32)) L := by rw [show (nI i + (5 : Int32)) = nI (i + 5) from nI_add i 5]; exact vp_in_nI (by omega) (by omega)
  have hi6 : vp_in (nI i + (6 : Int32)) L := by rw [show (nI i + (6 : Int32)) = nI (i + 6) from nI_add i 6]; exact vp_in_nI (by omega) (by omega)
  refine lv_aload_n hx hb dL_law_242 rfl (lv_at hl 1 rfl) ?_
  refine lv_aload_n hx hb dL_law_243 rfl (lv_at hl 0 rfl) ?_
  refine lv_iload_n hx hb dL_law_244 rfl (lv_at hl 3 rfl) ?_
  refine lv_iconst (v := (1 : Int32)) hx hb dL_law_245 (by decide) ?_
  refine lv_iadd hx hb dL_law_246 ?_
  refine va_sld hx hb hX hbl hbA hw.2.2 hi1 dL_law_247 ?_
  refine lv_aload_n hx hb dL_law_248 rfl (lv_at hl 0 rfl) ?_
  refine lv_iload_n hx hb dL_law_249 rfl (lv_at hl 3 rfl) ?_
  refine lv_iconst (v := (2 : Int32)) hx hb dL_law_250 (by decide) ?_
  refine lv_iadd hx hb dL_law_251 ?_
  refine va_sld hx hb hX hbl hbA hw.2.2 hi2 dL_law_252 ?_
  refine lv_aload_n hx hb dL_law_253 rfl (lv_at hl 0 rfl) ?_
  refine lv_iload_n hx hb dL_law_254 rfl (lv_at hl 3 rfl) ?_
  refine lv_iconst (v := (3 : Int32)) hx hb dL_law_255 (by decide) ?_
  refine lv_iadd hx hb dL_law_256 ?_
  refine va_sld hx hb hX hbl hbA hw.2.2 hi3 dL_law_257 ?_
  have h := ho C N S J (xs ((nI i) + (1 : Int32)).toNatClampNeg) (xs ((nI i) + (2 : Int32)).toNatClampNeg) (xs ((nI i) + (3 : Int32)).toNatClampNeg) hI
  refine lcalli (w1 := (fun u9 => wC g q u9 ++ wM g q6 (S, J))) (va_runV (As := [.int (xs ((nI i) + (1 : Int32)).toNatClampNeg), .int (xs ((nI i) + (2 : Int32)).toNatClampNeg), .int (xs ((nI i) + (3 : Int32)).toNatClampNeg)]) (rest := []) hC (kX5_set l g aK aV q H.size C N (xs ((nI i) + (1 : Int32)).toNatClampNeg) (xs ((nI i) + (2 : Int32)).toNatClampNeg) (xs ((nI i) + (3 : Int32)).toNatClampNeg) _ h) (cwV 3 hts gL_law_X5_set rfl rfl rfl (by decide +kernel) ⟨Nat.le_of_ble_eq_true rfl, Nat.le_of_ble_eq_true rfl⟩) (mpreV (E5_ok aK aV) hK hE hA hw sLC1 0 rfl rfl) rfl rfl hl.1 rfl (lv_room (Nat.le_of_ble_eq_true rfl)) dL_law_258 ⟨Nat.le_of_ble_eq_true rfl, Nat.le_of_ble_eq_true rfl⟩) hA hw sLC1 (fun u9 => sLC u9) (fun r1 u2 H locs h hw => ?_)
  obtain ⟨C1, N1⟩ := u2
  obtain ⟨hu, h⟩ := h
  replace hu : N = N1 := hu.symm
  subst hu
  refine lv_aload_n hx hb dL_law_261 rfl (lv_at hl 2 rfl) ?_
  refine lv_aload_n hx hb dL_law_262 rfl (lv_at hl 0 rfl) ?_
  refine lv_iload_n hx hb dL_law_263 rfl (lv_at hl 3 rfl) ?_
  refine lv_iconst (v := (1 : Int32)) hx hb dL_law_264 (by decide) ?_
  refine lv_iadd hx hb dL_law_265 ?_
  refine va_sld hx hb hX hbl hbA hw.2.2 hi1 dL_law_266 ?_
  refine lv_aload_n hx hb dL_law_267 rfl (lv_at hl 0 rfl) ?_
  refine lv_iload_n hx hb dL_law_268 rfl (lv_at hl 3 rfl) ?_
  refine lv_iconst (v := (2 : Int32)) hx hb dL_law_269 (by decide) ?_
  refine lv_iadd hx hb dL_law_270 ?_
  refine va_sld hx hb hX hbl hbA hw.2.2 hi2 dL_law_271 ?_
  refine lv_aload_n hx hb dL_law_272 rfl (lv_at hl 0 rfl) ?_
  refine lv_iload_n hx hb dL_law_273 rfl (lv_at hl 3 rfl) ?_
  refine lv_iconst (v := (3 : Int32)) hx hb dL_law_274 (by decide) ?_
  refine lv_iadd hx hb dL_law_275 ?_
  refine va_sld hx hb hX hbl hbA hw.2.2 hi3 dL_law_276 ?_
  refine lcalli (w1 := (fun u9 => wC g q (C1, N) ++ wM g q6 u9)) (va_runV (As := [.int (xs ((nI i) + (1 : Int32)).toNatClampNeg), .int (xs ((nI i) + (2 : Int32)).toNatClampNeg), .int (xs ((nI i) + (3 : Int32)).toNatClampNeg)]) (rest := [.int r1]) hC (kX6_set l g q6 H.size S J (xs ((nI i) + (1 : Int32)).toNatClampNeg) (xs ((nI i) + (2 : Int32)).toNatClampNeg) (xs ((nI i) + (3 : Int32)).toNatClampNeg) _ h) (cwV 3 hts gL_law_X6_set rfl rfl rfl (by decide +kernel) ⟨Nat.le_of_ble_eq_true rfl, Nat.le_of_ble_eq_true rfl⟩) (mpreV E0_ok hK trivial hA hw sLM1 0 rfl rfl) rfl rfl hl.1 rfl (lv_room (Nat.le_of_ble_eq_true rfl)) dL_law_277 ⟨Nat.le_of_ble_eq_true rfl, Nat.le_of_ble_eq_true rfl⟩) hA hw sLM1 (fun u9 => sLM u9) (fun r3 u4 H locs h hw => ?_)
  obtain ⟨S1, J1⟩ := u4
  obtain ⟨hu, h⟩ := h
  replace hu : J = J1 := hu.symm
  subst hu
  refine lv_icmp_eq (tgt := 1442) hx hb dL_law_280 (by decide) (fun c => ?_) (fun c => absurd h.1 c)
  exact kk C1 N S1 J _ _ h.2 hw
set_option maxRecDepth 100000 in
set_option maxHeartbeats 4000000 in
theorem law_join {p : Program} {l : Launch} {e : Env} {s : State} {m : MethodId} {args : Array Value} {below : List Frame} {meth : Method} {c : Code} {A : Nat → Prop} {Q : State → Prop} {g : Gl} {aK aV : Nat → Nat} {q : Nat → Nat → Nat} {q6 : Nat → Nat} {b L i : Nat} {xs : Nat → Int32} {Inv : (Nat → Bun) → (Nat → Lon) → Bun → Lon → Prop} {C : Nat → Bun} {N : Nat → Lon} {S : Bun} {J : Lon} {H : Heap} {locs : List Loc} {ls : Array Slot} (hC : CallFix p m c cL_law 4 s args wsL_law RL) (hA : ∀ q : Nat, s.heap.size ≤ q → A q) (hK : va_K g.1 vwCl (tysG g.2) s) (hE : E5 aK aV A s) (hX : va_X b L xs s s.heap) (hbl : b < s.heap.size) (hbA : ¬ A b) (hi : i + 7 ≤ L) (hL : L ≤ 448) (ho : lo_join Inv) (hI : Inv C N S J) (hw : Wd g.1 A s.heap (wC g q (C, N) ++ wM g q6 (S, J)) H locs) (hl : lv_has ls 4 [(0, .ref b), (1, .ref (q 0 0)), (2, .ref (q6 0)), (3, .int (nI i))]) (kk : ∀ (C : Nat → Bun) (N : Nat → Lon) (S : Bun) (J : Lon) (H : Heap) (locs : List Loc), Inv C N S J → Wd g.1 A s.heap (wC g q (C, N) ++ wM g q6 (S, J)) H locs → W p l e room_1 s m args below meth c H locs 244 4135 Q (F0 m 1442 ls [])) : W p l e room_1 s m args below meth c H locs 244 4135 Q (F0 m 285 ls []) := by
  obtain ⟨hx, hb, -, hown, hts⟩ := id hC
  have hi1 : vp_in (nI i + (1 : Int32)) L := by rw [show (nI i + (1 : Int32)) = nI (i + 1) from nI_add i 1]; exact vp_in_nI (by omega) (by omega)
  have hi2 : vp_in (nI i + (2 : Int32)) L := by rw [show (nI i + (2 : Int32)) = nI (i + 2) from nI_add i 2]; exact vp_in_nI (by omega) (by omega)
  have hi3 : vp_in (nI i + (3 : Int32)) L := by rw [show (nI i + (3 : Int32)) = nI (i + 3) from nI_add i 3]; exact vp_in_nI (by omega) (by omega)
  have hi4 : vp_in (nI i + (4 : Int32)) L := by rw [show (nI i + (4 : Int32)) = nI (i + 4) from nI_add i 4]; exact vp_in_nI (by omega) (by omega)
  have hi5 : vp_in (nI i + (5 : Int32)) L := by rw [show (nI i + (5 : Int32)) = nI (i + 5) from nI_add i 5]; exact vp_in_nI (by omega) (by omega)
  have hi6 : vp_in (nI i + (6 : Int32)) L := by rw [show (nI i + (6 : Int32)) = nI (i + 6) from nI_add i 6]; exact vp_in_nI (by omega) (by omega)
  by_cases hz : xs (nI i + (3 : Int32)).toNatClampNeg = 0
  · refine lv_aload_n hx hb dL_law_285 rfl (lv_at hl 1 rfl) ?_
    refine lv_aload_n hx hb dL_law_286 rfl (lv_at hl 0 rfl) ?_
    refine lv_iload_n hx hb dL_law_287 rfl (lv_at hl 3 rfl) ?_
    refine lv_iconst (v := (1 : Int32)) hx hb dL_law_288 (by decide) ?_
    refine lv_iadd hx hb dL_law_289 ?_
    refine va_sld hx hb hX hbl hbA hw.2.2 hi1 dL_law_290 ?_
    refine lv_aload_n hx hb dL_law_291 rfl (lv_at hl 0 rfl) ?_
    refine lv_iload_n hx hb dL_law_292 rfl (lv_at hl 3 rfl) ?_
    refine lv_iconst (v := (2 : Int32)) hx hb dL_law_293 (by decide) ?_
    refine lv_iadd hx hb dL_law_294 ?_
    refine va_sld hx hb hX hbl hbA hw.2.2 hi2 dL_law_295 ?_
    refine lv_aload_n hx hb dL_law_296 rfl (lv_at hl 0 rfl) ?_
    refine lv_iload_n hx hb dL_law_297 rfl (lv_at hl 3 rfl) ?_
    refine lv_iconst (v := (3 : Int32)) hx hb dL_law_298 (by decide) ?_
    refine lv_iadd hx hb dL_law_299 ?_
    refine va_sld hx hb hX hbl hbA hw.2.2 hi3 dL_law_300 ?_
    refine lv_if_eq (tgt := 308) hx hb dL_law_301 (by decide) (fun c => ?_) (fun c => absurd hz c)
    refine lv_iconst (v := (0 : Int32)) hx hb dL_law_308 (by decide) ?_
    have h := ho C N S J (xs ((nI i) + (1 : Int32)).toNatClampNeg) (xs ((nI i) + (2 : Int32)).toNatClampNeg) (0 : Int32) (Or.inl rfl) hI
    refine lcalli (w1 := (fun u9 => wC g q u9 ++ wM g q6 (S, J))) (va_runV (As := [.int (xs ((nI i) + (1 : Int32)).toNatClampNeg), .int (xs ((nI i) + (2 : Int32)).toNatClampNeg), .int (0 : Int32)]) (rest := []) hC (kX5_join l g aK aV q H.size C N (xs ((nI i) + (1 : Int32)).toNatClampNeg) (xs ((nI i) + (2 : Int32)).toNatClampNeg) (0 : Int32) _ h) (cwV 3 hts gL_law_X5_join rfl rfl rfl (by decide +kernel) ⟨Nat.le_of_ble_eq_true rfl, Nat.le_of_ble_eq_true rfl⟩) (mpreV (E5_ok aK aV) hK hE hA hw sLC1 0 rfl rfl) rfl rfl hl.1 rfl (lv_room (Nat.le_of_ble_eq_true rfl)) dL_law_309 ⟨Nat.le_of_ble_eq_true rfl, Nat.le_of_ble_eq_true rfl⟩) hA hw sLC1 (fun u9 => sLC u9) (fun r1 u2 H locs h hw => ?_)
    obtain ⟨C1, N1⟩ := u2
    obtain ⟨hu, h⟩ := h
    replace hu : N = N1 := hu.symm
    subst hu
    refine lv_aload_n hx hb dL_law_312 rfl (lv_at hl 2 rfl) ?_
    refine lv_aload_n hx hb dL_law_313 rfl (lv_at hl 0 rfl) ?_
    refine lv_iload_n hx hb dL_law_314 rfl (lv_at hl 3 rfl) ?_
    refine lv_iconst (v := (1 : Int32)) hx hb dL_law_315 (by decide) ?_
    refine lv_iadd hx hb dL_law_316 ?_
    refine va_sld hx hb hX hbl hbA hw.2.2 hi1 dL_law_317 ?_
    refine lv_aload_n hx hb dL_law_318 rfl (lv_at hl 0 rfl) ?_
    refine lv_iload_n hx hb dL_law_319 rfl (lv_at hl 3 rfl) ?_
    refine lv_iconst (v := (2 : Int32)) hx hb dL_law_320 (by decide) ?_
    refine lv_iadd hx hb dL_law_321 ?_
    refine va_sld hx hb hX hbl hbA hw.2.2 hi2 dL_law_322 ?_
    refine lv_aload_n hx hb dL_law_323 rfl (lv_at hl 0 rfl) ?_
    refine lv_iload_n hx hb dL_law_324 rfl (lv_at hl 3 rfl) ?_
    refine lv_iconst (v := (3 : Int32)) hx hb dL_law_325 (by decide) ?_
    refine lv_iadd hx hb dL_law_326 ?_
    refine va_sld hx hb hX hbl hbA hw.2.2 hi3 dL_law_327 ?_
    refine lv_if_eq (tgt := 335) hx hb dL_law_328 (by decide) (fun c => ?_) (fun c => absurd hz c)
    refine lv_iconst (v := (0 : Int32)) hx hb dL_law_335 (by decide) ?_
    refine lcalli (w1 := (fun u9 => wC g q (C1, N) ++ wM g q6 u9)) (va_runV (As := [.int (xs ((nI i) + (1 : Int32)).toNatClampNeg), .int (xs ((nI i) + (2 : Int32)).toNatClampNeg), .int (0 : Int32)]) (rest := [.int r1]) hC (kX6_join l g q6 H.size S J (xs ((nI i) + (1 : Int32)).toNatClampNeg) (xs ((nI i) + (2 : Int32)).toNatClampNeg) (0 : Int32) _ h) (cwV 3 hts gL_law_X6_join rfl rfl rfl (by decide +kernel) ⟨Nat.le_of_ble_eq_true rfl, Nat.le_of_ble_eq_true rfl⟩) (mpreV E0_ok hK trivial hA hw sLM1 0 rfl rfl) rfl rfl hl.1 rfl (lv_room (Nat.le_of_ble_eq_true rfl)) dL_law_336 ⟨Nat.le_of_ble_eq_true rfl, Nat.le_of_ble_eq_true rfl⟩) hA hw sLM1 (fun u9 => sLM u9) (fun r3 u4 H locs h hw => ?_)
    obtain ⟨S1, J1⟩ := u4
    obtain ⟨hu, h⟩ := h
    replace hu : J = J1 := hu.symm
    subst hu
    refine lv_icmp_eq (tgt := 1442) hx hb dL_law_339 (by decide) (fun c => ?_) (fun c => absurd h.1 c)
    exact kk C1 N S1 J _ _ h.2 hw
  · refine lv_aload_n hx hb dL_law_285 rfl (lv_at hl 1 rfl) ?_
    refine lv_aload_n hx hb dL_law_286 rfl (lv_at hl 0 rfl) ?_
    refine lv_iload_n hx hb dL_law_287 rfl (lv_at hl 3 rfl) ?_
    refine lv_iconst (v := (1 : Int32)) hx hb dL_law_288 (by decide) ?_
    refine lv_iadd hx hb dL_law_289 ?_
    refine va_sld hx hb hX hbl hbA hw.2.2 hi1 dL_law_290 ?_
    refine lv_aload_n hx hb dL_law_291 rfl (lv_at hl 0 rfl) ?_
    refine lv_iload_n hx hb dL_law_292 rfl (lv_at hl 3 rfl) ?_
    refine lv_iconst (v := (2 : Int32)) hx hb dL_law_293 (by decide) ?_
    refine lv_iadd hx hb dL_law_294 ?_
    refine va_sld hx hb hX hbl hbA hw.2.2 hi2 dL_law_295 ?_
    refine lv_aload_n hx hb dL_law_296 rfl (lv_at hl 0 rfl) ?_
    refine lv_iload_n hx hb dL_law_297 rfl (lv_at hl 3 rfl) ?_
    refine lv_iconst (v := (3 : Int32)) hx hb dL_law_298 (by decide) ?_
    refine lv_iadd hx hb dL_law_299 ?_
    refine va_sld hx hb hX hbl hbA hw.2.2 hi3 dL_law_300 ?_
    refine lv_if_eq (tgt := 308) hx hb dL_law_301 (by decide) (fun c => absurd c hz) (fun c => ?_)
    refine lv_iconst (v := (1 : Int32)) hx hb dL_law_304 (by decide) ?_
    refine lv_goto (tgt := 309) hx hb dL_law_305 (by decide) ?_
    have h := ho C N S J (xs ((nI i) + (1 : Int32)).toNatClampNeg) (xs ((nI i) + (2 : Int32)).toNatClampNeg) (1 : Int32) (Or.inr rfl) hI
    refine lcalli (w1 := (fun u9 => wC g q u9 ++ wM g q6 (S, J))) (va_runV (As := [.int (xs ((nI i) + (1 : Int32)).toNatClampNeg), .int (xs ((nI i) + (2 : Int32)).toNatClampNeg), .int (1 : Int32)]) (rest := []) hC (kX5_join l g aK aV q H.size C N (xs ((nI i) + (1 : Int32)).toNatClampNeg) (xs ((nI i) + (2 : Int32)).toNatClampNeg) (1 : Int32) _ h) (cwV 3 hts gL_law_X5_join rfl rfl rfl (by decide +kernel) ⟨Nat.le_of_ble_eq_true rfl, Nat.le_of_ble_eq_true rfl⟩) (mpreV (E5_ok aK aV) hK hE hA hw sLC1 0 rfl rfl) rfl rfl hl.1 rfl (lv_room (Nat.le_of_ble_eq_true rfl)) dL_law_309 ⟨Nat.le_of_ble_eq_true rfl, Nat.le_of_ble_eq_true rfl⟩) hA hw sLC1 (fun u9 => sLC u9) (fun r1 u2 H locs h hw => ?_)
    obtain ⟨C1, N1⟩ := u2
    obtain ⟨hu, h⟩ := h
    replace hu : N = N1 := hu.symm
    subst hu
    refine lv_aload_n hx hb dL_law_312 rfl (lv_at hl 2 rfl) ?_
    refine lv_aload_n hx hb dL_law_313 rfl (lv_at hl 0 rfl) ?_
    refine lv_iload_n hx hb dL_law_314 rfl (lv_at hl 3 rfl) ?_
    refine lv_iconst (v := (1 : Int32)) hx hb dL_law_315 (by decide) ?_
    refine lv_iadd hx hb dL_law_316 ?_
    refine va_sld hx hb hX hbl hbA hw.2.2 hi1 dL_law_317 ?_
    refine lv_aload_n hx hb dL_law_318 rfl (lv_at hl 0 rfl) ?_
    refine lv_iload_n hx hb dL_law_319 rfl (lv_at hl 3 rfl) ?_
    refine lv_iconst (v := (2 : Int32)) hx hb dL_law_320 (by decide) ?_
    refine lv_iadd hx hb dL_law_321 ?_
    refine va_sld hx hb hX hbl hbA hw.2.2 hi2 dL_law_322 ?_
    refine lv_aload_n hx hb dL_law_323 rfl (lv_at hl 0 rfl) ?_
    refine lv_iload_n hx hb dL_law_324 rfl (lv_at hl 3 rfl) ?_
    refine lv_iconst (v := (3 : Int32)) hx hb dL_law_325 (by decide) ?_
    refine lv_iadd hx hb dL_law_326 ?_
    refine va_sld hx hb hX hbl hbA hw.2.2 hi3 dL_law_327 ?_
    refine lv_if_eq (tgt := 335) hx hb dL_law_328 (by decide) (fun c => absurd c hz) (fun c => ?_)
    refine lv_iconst (v := (1 : Int32)) hx hb dL_law_331 (by decide) ?_
    refine lv_goto (tgt := 336) hx hb dL_law_332 (by decide) ?_
    refine lcalli (w1 := (fun u9 => wC g q (C1, N) ++ wM g q6 u9)) (va_runV (As := [.int (xs ((nI i) + (1 : Int32)).toNatClampNeg), .int (xs ((nI i) + (2 : Int32)).toNatClampNeg), .int (1 : Int32)]) (rest := [.int r1]) hC (kX6_join l g q6 H.size S J (xs ((nI i) + (1 : Int32)).toNatClampNeg) (xs ((nI i) + (2 : Int32)).toNatClampNeg) (1 : Int32) _ h) (cwV 3 hts gL_law_X6_join rfl rfl rfl (by decide +kernel) ⟨Nat.le_of_ble_eq_true rfl, Nat.le_of_ble_eq_true rfl⟩) (mpreV E0_ok hK trivial hA hw sLM1 0 rfl rfl) rfl rfl hl.1 rfl (lv_room (Nat.le_of_ble_eq_true rfl)) dL_law_336 ⟨Nat.le_of_ble_eq_true rfl, Nat.le_of_ble_eq_true rfl⟩) hA hw sLM1 (fun u9 => sLM u9) (fun r3 u4 H locs h hw => ?_)
    obtain ⟨S1, J1⟩ := u4
    obtain ⟨hu, h⟩ := h
    replace hu : J = J1 := hu.symm
    subst hu
    refine lv_icmp_eq (tgt := 1442) hx hb dL_law_339 (by decide) (fun c => ?_) (fun c => absurd h.1 c)
    exact kk C1 N S1 J _ _ h.2 hw
set_option maxRecDepth 100000 in
set_option maxHeartbeats 4000000 in
theorem law_joined {p : Program} {l : Launch} {e : Env} {s : State} {m : MethodId} {args : Array Value} {below : List Frame} {meth : Method} {c : Code} {A : Nat → Prop} {Q : State → Prop} {g : Gl} {aK aV : Nat → Nat} {q : Nat → Nat → Nat} {q6 : Nat → Nat} {b L i : Nat} {xs : Nat → Int32} {Inv : (Nat → Bun) → (Nat → Lon) → Bun → Lon → Prop} {C : Nat → Bun} {N : Nat → Lon} {S : Bun} {J : Lon} {H : Heap} {locs : List Loc} {ls : Array Slot} (hC : CallFix p m c cL_law 4 s args wsL_law RL) (hA : ∀ q : Nat, s.heap.size ≤ q → A q) (hK : va_K g.1 vwCl (tysG g.2) s) (hE : E5 aK aV A s) (hX : va_X b L xs s s.heap) (hbl : b < s.heap.size) (hbA : ¬ A b) (hi : i + 7 ≤ L) (hL : L ≤ 448) (ho : lo_joined Inv) (hI : Inv C N S J) (hw : Wd g.1 A s.heap (wC g q (C, N) ++ wM g q6 (S, J)) H locs) (hl : lv_has ls 4 [(0, .ref b), (1, .ref (q 0 0)), (2, .ref (q6 0)), (3, .int (nI i))]) (kk : ∀ (C : Nat → Bun) (N : Nat → Lon) (S : Bun) (J : Lon) (H : Heap) (locs : List Loc), Inv C N S J → Wd g.1 A s.heap (wC g q (C, N) ++ wM g q6 (S, J)) H locs → W p l e room_1 s m args below meth c H locs 244 4135 Q (F0 m 1442 ls [])) : W p l e room_1 s m args below meth c H locs 244 4135 Q (F0 m 344 ls []) := by
  obtain ⟨hx, hb, -, hown, hts⟩ := id hC
  have hi1 : vp_in (nI i + (1 : Int32)) L := by rw [show (nI i + (1 : Int32)) = nI (i + 1) from nI_add i 1]; exact vp_in_nI (by omega) (by omega)
  have hi2 : vp_in (nI i + (2 : Int32)) L := by rw [show (nI i + (2 : Int32)) = nI (i + 2) from nI_add i 2]; exact vp_in_nI (by omega) (by omega)
  have hi3 : vp_in (nI i + (3 : Int32)) L := by rw [show (nI i + (3 : Int32)) = nI (i + 3) from nI_add i 3]; exact vp_in_nI (by omega) (by omega)
  have hi4 : vp_in (nI i + (4 : Int32)) L := by rw [show (nI i + (4 : Int32)) = nI (i + 4) from nI_add i 4]; exact vp_in_nI (by omega) (by omega)
  have hi5 : vp_in (nI i + (5 : Int32)) L := by rw [show (nI i + (5 : Int32)) = nI (i + 5) from nI_add i 5]; exact vp_in_nI (by omega) (by omega)
  have hi6 : vp_in (nI i + (6 : Int32)) L := by rw [show (nI i + (6 : Int32)) = nI (i + 6) from nI_add i 6]; exact vp_in_nI (by omega) (by omega)
  refine lv_aload_n hx hb dL_law_344 rfl (lv_at hl 1 rfl) ?_
  refine lv_aload_n hx hb dL_law_345 rfl (lv_at hl 0 rfl) ?_
  refine lv_iload_n hx hb dL_law_346 rfl (lv_at hl 3 rfl) ?_
  refine lv_iconst (v := (1 : Int32)) hx hb dL_law_347 (by decide) ?_
  refine lv_iadd hx hb dL_law_348 ?_
  refine va_sld hx hb hX hbl hbA hw.2.2 hi1 dL_law_349 ?_
  have h := ho C N S J (xs ((nI i) + (1 : Int32)).toNatClampNeg) hI
  refine lcalli (w1 := (fun u9 => wC g q u9 ++ wM g q6 (S, J))) (va_runV (As := [.int (xs ((nI i) + (1 : Int32)).toNatClampNeg)]) (rest := []) hC (kX5_joined l g aK aV q H.size C N (xs ((nI i) + (1 : Int32)).toNatClampNeg) _ h) (cwV 1 hts gL_law_X5_joined rfl rfl rfl (by decide +kernel) ⟨Nat.le_of_ble_eq_true rfl, Nat.le_of_ble_eq_true rfl⟩) (mpreV (E5_ok aK aV) hK hE hA hw sLC1 0 rfl rfl) rfl rfl hl.1 rfl (lv_room (Nat.le_of_ble_eq_true rfl)) dL_law_350 ⟨Nat.le_of_ble_eq_true rfl, Nat.le_of_ble_eq_true rfl⟩) hA hw sLC1 (fun u9 => sLC u9) (fun r1 u2 H locs h hw => ?_)
  obtain ⟨C1, N1⟩ := u2
  obtain ⟨hu, h⟩ := h
  replace hu : N = N1 := hu.symm
  subst hu
  refine lv_aload_n hx hb dL_law_353 rfl (lv_at hl 2 rfl) ?_
  refine lv_aload_n hx hb dL_law_354 rfl (lv_at hl 0 rfl) ?_
  refine lv_iload_n hx hb dL_law_355 rfl (lv_at hl 3 rfl) ?_
  refine lv_iconst (v := (1 : Int32)) hx hb dL_law_356 (by decide) ?_
  refine lv_iadd hx hb dL_law_357 ?_
  refine va_sld hx hb hX hbl hbA hw.2.2 hi1 dL_law_358 ?_
  refine lcalli (w1 := (fun u9 => wC g q (C1, N) ++ wM g q6 u9)) (va_runV (As := [.int (xs ((nI i) + (1 : Int32)).toNatClampNeg)]) (rest := [.int r1]) hC (kX6_joined l g q6 H.size S J (xs ((nI i) + (1 : Int32)).toNatClampNeg) _ h) (cwV 1 hts gL_law_X6_joined rfl rfl rfl (by decide +kernel) ⟨Nat.le_of_ble_eq_true rfl, Nat.le_of_ble_eq_true rfl⟩) (mpreV E0_ok hK trivial hA hw sLM1 0 rfl rfl) rfl rfl hl.1 rfl (lv_room (Nat.le_of_ble_eq_true rfl)) dL_law_359 ⟨Nat.le_of_ble_eq_true rfl, Nat.le_of_ble_eq_true rfl⟩) hA hw sLM1 (fun u9 => sLM u9) (fun r3 u4 H locs h hw => ?_)
  obtain ⟨S1, J1⟩ := u4
  obtain ⟨hu, h⟩ := h
  replace hu : J = J1 := hu.symm
  subst hu
  refine lv_icmp_eq (tgt := 1442) hx hb dL_law_362 (by decide) (fun c => ?_) (fun c => absurd h.1 c)
  exact kk C1 N S1 J _ _ h.2 hw
set_option maxRecDepth 100000 in
set_option maxHeartbeats 4000000 in
theorem law_team {p : Program} {l : Launch} {e : Env} {s : State} {m : MethodId} {args : Array Value} {below : List Frame} {meth : Method} {c : Code} {A : Nat → Prop} {Q : State → Prop} {g : Gl} {aK aV : Nat → Nat} {q : Nat → Nat → Nat} {q6 : Nat → Nat} {b L i : Nat} {xs : Nat → Int32} {Inv : (Nat → Bun) → (Nat → Lon) → Bun → Lon → Prop} {C : Nat → Bun} {N : Nat → Lon} {S : Bun} {J : Lon} {H : Heap} {locs : List Loc} {ls : Array Slot} (hC : CallFix p m c cL_law 4 s args wsL_law RL) (hA : ∀ q : Nat, s.heap.size ≤ q → A q) (hK : va_K g.1 vwCl (tysG g.2) s) (hE : E5 aK aV A s) (hX : va_X b L xs s s.heap) (hbl : b < s.heap.size) (hbA : ¬ A b) (hi : i + 7 ≤ L) (hL : L ≤ 448) (ho : lo_team Inv) (hI : Inv C N S J) (hw : Wd g.1 A s.heap (wC g q (C, N) ++ wM g q6 (S, J)) H locs) (hl : lv_has ls 4 [(0, .ref b), (1, .ref (q 0 0)), (2, .ref (q6 0)), (3, .int (nI i))]) (kk : ∀ (C : Nat → Bun) (N : Nat → Lon) (S : Bun) (J : Lon) (H : Heap) (locs : List Loc), Inv C N S J → Wd g.1 A s.heap (wC g q (C, N) ++ wM g q6 (S, J)) H locs → W p l e room_1 s m args below meth c H locs 244 4135 Q (F0 m 1442 ls [])) : W p l e room_1 s m args below meth c H locs 244 4135 Q (F0 m 367 ls []) := by
  obtain ⟨hx, hb, -, hown, hts⟩ := id hC
  have hi1 : vp_in (nI i + (1 : Int32)) L := by rw [show (nI i + (1 : Int32)) = nI (i + 1) from nI_add i 1]; exact vp_in_nI (by omega) (by omega)
  have hi2 : vp_in (nI i + (2 : Int32)) L := by rw [show (nI i + (2 : Int32)) = nI (i + 2) from nI_add i 2]; exact vp_in_nI (by omega) (by omega)
  have hi3 : vp_in (nI i + (3 : Int32)) L := by rw [show (nI i + (3 : Int32)) = nI (i + 3) from nI_add i 3]; exact vp_in_nI (by omega) (by omega)
  have hi4 : vp_in (nI i + (4 : Int32)) L := by rw [show (nI i + (4 : Int32)) = nI (i + 4) from nI_add i 4]; exact vp_in_nI (by omega) (by omega)
  have hi5 : vp_in (nI i + (5 : Int32)) L := by rw [show (nI i + (5 : Int32)) = nI (i + 5) from nI_add i 5]; exact vp_in_nI (by omega) (by omega)
  have hi6 : vp_in (nI i + (6 : Int32)) L := by rw [show (nI i + (6 : Int32)) = nI (i + 6) from nI_add i 6]; exact vp_in_nI (by omega) (by omega)
  refine lv_aload_n hx hb dL_law_367 rfl (lv_at hl 1 rfl) ?_
  refine lv_aload_n hx hb dL_law_368 rfl (lv_at hl 0 rfl) ?_
  refine lv_iload_n hx hb dL_law_369 rfl (lv_at hl 3 rfl) ?_
  refine lv_iconst (v := (1 : Int32)) hx hb dL_law_370 (by decide) ?_
  refine lv_iadd hx hb dL_law_371 ?_
  refine va_sld hx hb hX hbl hbA hw.2.2 hi1 dL_law_372 ?_
  refine lv_aload_n hx hb dL_law_373 rfl (lv_at hl 0 rfl) ?_
  refine lv_iload_n hx hb dL_law_374 rfl (lv_at hl 3 rfl) ?_
  refine lv_iconst (v := (2 : Int32)) hx hb dL_law_375 (by decide) ?_
  refine lv_iadd hx hb dL_law_376 ?_
  refine va_sld hx hb hX hbl hbA hw.2.2 hi2 dL_law_377 ?_
  have h := ho C N S J (xs ((nI i) + (1 : Int32)).toNatClampNeg) (xs ((nI i) + (2 : Int32)).toNatClampNeg) hI
  refine lcalli (w1 := (fun u9 => wC g q u9 ++ wM g q6 (S, J))) (va_runV (As := [.int (xs ((nI i) + (1 : Int32)).toNatClampNeg), .int (xs ((nI i) + (2 : Int32)).toNatClampNeg)]) (rest := []) hC (kX5_team l g aK aV q H.size C N (xs ((nI i) + (1 : Int32)).toNatClampNeg) (xs ((nI i) + (2 : Int32)).toNatClampNeg) _ h) (cwV 2 hts gL_law_X5_team rfl rfl rfl (by decide +kernel) ⟨Nat.le_of_ble_eq_true rfl, Nat.le_of_ble_eq_true rfl⟩) (mpreV (E5_ok aK aV) hK hE hA hw sLC1 0 rfl rfl) rfl rfl hl.1 rfl (lv_room (Nat.le_of_ble_eq_true rfl)) dL_law_378 ⟨Nat.le_of_ble_eq_true rfl, Nat.le_of_ble_eq_true rfl⟩) hA hw sLC1 (fun u9 => sLC u9) (fun r1 u2 H locs h hw => ?_)
  obtain ⟨C1, N1⟩ := u2
  obtain ⟨hu, h⟩ := h
  replace hu : N = N1 := hu.symm
  subst hu
  refine lv_aload_n hx hb dL_law_381 rfl (lv_at hl 2 rfl) ?_
  refine lv_aload_n hx hb dL_law_382 rfl (lv_at hl 0 rfl) ?_
  refine lv_iload_n hx hb dL_law_383 rfl (lv_at hl 3 rfl) ?_
  refine lv_iconst (v := (1 : Int32)) hx hb dL_law_384 (by decide) ?_
  refine lv_iadd hx hb dL_law_385 ?_
  refine va_sld hx hb hX hbl hbA hw.2.2 hi1 dL_law_386 ?_
  refine lv_aload_n hx hb dL_law_387 rfl (lv_at hl 0 rfl) ?_
  refine lv_iload_n hx hb dL_law_388 rfl (lv_at hl 3 rfl) ?_
  refine lv_iconst (v := (2 : Int32)) hx hb dL_law_389 (by decide) ?_
  refine lv_iadd hx hb dL_law_390 ?_
  refine va_sld hx hb hX hbl hbA hw.2.2 hi2 dL_law_391 ?_
  refine lcalli (w1 := (fun u9 => wC g q (C1, N) ++ wM g q6 u9)) (va_runV (As := [.int (xs ((nI i) + (1 : Int32)).toNatClampNeg), .int (xs ((nI i) + (2 : Int32)).toNatClampNeg)]) (rest := [.int r1]) hC (kX6_team l g q6 H.size S J (xs ((nI i) + (1 : Int32)).toNatClampNeg) (xs ((nI i) + (2 : Int32)).toNatClampNeg) _ h) (cwV 2 hts gL_law_X6_team rfl rfl rfl (by decide +kernel) ⟨Nat.le_of_ble_eq_true rfl, Nat.le_of_ble_eq_true rfl⟩) (mpreV E0_ok hK trivial hA hw sLM1 0 rfl rfl) rfl rfl hl.1 rfl (lv_room (Nat.le_of_ble_eq_true rfl)) dL_law_392 ⟨Nat.le_of_ble_eq_true rfl, Nat.le_of_ble_eq_true rfl⟩) hA hw sLM1 (fun u9 => sLM u9) (fun r3 u4 H locs h hw => ?_)
  obtain ⟨S1, J1⟩ := u4
  obtain ⟨hu, h⟩ := h
  replace hu : J = J1 := hu.symm
  subst hu
  refine lv_icmp_eq (tgt := 1442) hx hb dL_law_395 (by decide) (fun c => ?_) (fun c => absurd h.1 c)
  exact kk C1 N S1 J _ _ h.2 hw
set_option maxRecDepth 100000 in
set_option maxHeartbeats 4000000 in
theorem law_teamOf {p : Program} {l : Launch} {e : Env} {s : State} {m : MethodId} {args : Array Value} {below : List Frame} {meth : Method} {c : Code} {A : Nat → Prop} {Q : State → Prop} {g : Gl} {aK aV : Nat → Nat} {q : Nat → Nat → Nat} {q6 : Nat → Nat} {b L i : Nat} {xs : Nat → Int32} {Inv : (Nat → Bun) → (Nat → Lon) → Bun → Lon → Prop} {C : Nat → Bun} {N : Nat → Lon} {S : Bun} {J : Lon} {H : Heap} {locs : List Loc} {ls : Array Slot} (hC : CallFix p m c cL_law 4 s args wsL_law RL) (hA : ∀ q : Nat, s.heap.size ≤ q → A q) (hK : va_K g.1 vwCl (tysG g.2) s) (hE : E5 aK aV A s) (hX : va_X b L xs s s.heap) (hbl : b < s.heap.size) (hbA : ¬ A b) (hi : i + 7 ≤ L) (hL : L ≤ 448) (ho : lo_teamOf Inv) (hI : Inv C N S J) (hw : Wd g.1 A s.heap (wC g q (C, N) ++ wM g q6 (S, J)) H locs) (hl : lv_has ls 4 [(0, .ref b), (1, .ref (q 0 0)), (2, .ref (q6 0)), (3, .int (nI i))]) (kk : ∀ (C : Nat → Bun) (N : Nat → Lon) (S : Bun) (J : Lon) (H : Heap) (locs : List Loc), Inv C N S J → Wd g.1 A s.heap (wC g q (C, N) ++ wM g q6 (S, J)) H locs → W p l e room_1 s m args below meth c H locs 244 4135 Q (F0 m 1442 ls [])) : W p l e room_1 s m args below meth c H locs 244 4135 Q (F0 m 400 ls []) := by
  obtain ⟨hx, hb, -, hown, hts⟩ := id hC
  have hi1 : vp_in (nI i + (1 : Int32)) L := by rw [show (nI i + (1 : Int32)) = nI (i + 1) from nI_add i 1]; exact vp_in_nI (by omega) (by omega)
  have hi2 : vp_in (nI i + (2 : Int32)) L := by rw [show (nI i + (2 : Int32)) = nI (i + 2) from nI_add i 2]; exact vp_in_nI (by omega) (by omega)
  have hi3 : vp_in (nI i + (3 : Int32)) L := by rw [show (nI i + (3 : Int32)) = nI (i + 3) from nI_add i 3]; exact vp_in_nI (by omega) (by omega)
  have hi4 : vp_in (nI i + (4 : Int32)) L := by rw [show (nI i + (4 : Int32)) = nI (i + 4) from nI_add i 4]; exact vp_in_nI (by omega) (by omega)
  have hi5 : vp_in (nI i + (5 : Int32)) L := by rw [show (nI i + (5 : Int32)) = nI (i + 5) from nI_add i 5]; exact vp_in_nI (by omega) (by omega)
  have hi6 : vp_in (nI i + (6 : Int32)) L := by rw [show (nI i + (6 : Int32)) = nI (i + 6) from nI_add i 6]; exact vp_in_nI (by omega) (by omega)
  refine lv_aload_n hx hb dL_law_400 rfl (lv_at hl 1 rfl) ?_
  refine lv_aload_n hx hb dL_law_401 rfl (lv_at hl 0 rfl) ?_
  refine lv_iload_n hx hb dL_law_402 rfl (lv_at hl 3 rfl) ?_
  refine lv_iconst (v := (1 : Int32)) hx hb dL_law_403 (by decide) ?_
  refine lv_iadd hx hb dL_law_404 ?_
  refine va_sld hx hb hX hbl hbA hw.2.2 hi1 dL_law_405 ?_
  refine lv_aload_n hx hb dL_law_406 rfl (lv_at hl 0 rfl) ?_
  refine lv_iload_n hx hb dL_law_407 rfl (lv_at hl 3 rfl) ?_
  refine lv_iconst (v := (2 : Int32)) hx hb dL_law_408 (by decide) ?_
  refine lv_iadd hx hb dL_law_409 ?_
  refine va_sld hx hb hX hbl hbA hw.2.2 hi2 dL_law_410 ?_
  have h := ho C N S J (xs ((nI i) + (1 : Int32)).toNatClampNeg) (xs ((nI i) + (2 : Int32)).toNatClampNeg) hI
  refine lcalli (w1 := (fun u9 => wC g q u9 ++ wM g q6 (S, J))) (va_runV (As := [.int (xs ((nI i) + (1 : Int32)).toNatClampNeg), .int (xs ((nI i) + (2 : Int32)).toNatClampNeg)]) (rest := []) hC (kX5_teamOf l g aK aV q H.size C N (xs ((nI i) + (1 : Int32)).toNatClampNeg) (xs ((nI i) + (2 : Int32)).toNatClampNeg) _ h) (cwV 2 hts gL_law_X5_teamOf rfl rfl rfl (by decide +kernel) ⟨Nat.le_of_ble_eq_true rfl, Nat.le_of_ble_eq_true rfl⟩) (mpreV (E5_ok aK aV) hK hE hA hw sLC1 0 rfl rfl) rfl rfl hl.1 rfl (lv_room (Nat.le_of_ble_eq_true rfl)) dL_law_411 ⟨Nat.le_of_ble_eq_true rfl, Nat.le_of_ble_eq_true rfl⟩) hA hw sLC1 (fun u9 => sLC u9) (fun r1 u2 H locs h hw => ?_)
  obtain ⟨C1, N1⟩ := u2
  obtain ⟨hu, h⟩ := h
  replace hu : N = N1 := hu.symm
  subst hu
  refine lv_aload_n hx hb dL_law_414 rfl (lv_at hl 2 rfl) ?_
  refine lv_aload_n hx hb dL_law_415 rfl (lv_at hl 0 rfl) ?_
  refine lv_iload_n hx hb dL_law_416 rfl (lv_at hl 3 rfl) ?_
  refine lv_iconst (v := (1 : Int32)) hx hb dL_law_417 (by decide) ?_
  refine lv_iadd hx hb dL_law_418 ?_
  refine va_sld hx hb hX hbl hbA hw.2.2 hi1 dL_law_419 ?_
  refine lv_aload_n hx hb dL_law_420 rfl (lv_at hl 0 rfl) ?_
  refine lv_iload_n hx hb dL_law_421 rfl (lv_at hl 3 rfl) ?_
  refine lv_iconst (v := (2 : Int32)) hx hb dL_law_422 (by decide) ?_
  refine lv_iadd hx hb dL_law_423 ?_
  refine va_sld hx hb hX hbl hbA hw.2.2 hi2 dL_law_424 ?_
  refine lcalli (w1 := (fun u9 => wC g q (C1, N) ++ wM g q6 u9)) (va_runV (As := [.int (xs ((nI i) + (1 : Int32)).toNatClampNeg), .int (xs ((nI i) + (2 : Int32)).toNatClampNeg)]) (rest := [.int r1]) hC (kX6_teamOf l g q6 H.size S J (xs ((nI i) + (1 : Int32)).toNatClampNeg) (xs ((nI i) + (2 : Int32)).toNatClampNeg) _ h) (cwV 2 hts gL_law_X6_teamOf rfl rfl rfl (by decide +kernel) ⟨Nat.le_of_ble_eq_true rfl, Nat.le_of_ble_eq_true rfl⟩) (mpreV E0_ok hK trivial hA hw sLM1 0 rfl rfl) rfl rfl hl.1 rfl (lv_room (Nat.le_of_ble_eq_true rfl)) dL_law_425 ⟨Nat.le_of_ble_eq_true rfl, Nat.le_of_ble_eq_true rfl⟩) hA hw sLM1 (fun u9 => sLM u9) (fun r3 u4 H locs h hw => ?_)
  obtain ⟨S1, J1⟩ := u4
  obtain ⟨hu, h⟩ := h
  replace hu : J = J1 := hu.symm
  subst hu
  refine lv_icmp_eq (tgt := 1442) hx hb dL_law_428 (by decide) (fun c => ?_) (fun c => absurd h.1 c)
  exact kk C1 N S1 J _ _ h.2 hw
set_option maxRecDepth 100000 in
set_option maxHeartbeats 4000000 in
theorem law_pace {p : Program} {l : Launch} {e : Env} {s : State} {m : MethodId} {args : Array Value} {below : List Frame} {meth : Method} {c : Code} {A : Nat → Prop} {Q : State → Prop} {g : Gl} {aK aV : Nat → Nat} {q : Nat → Nat → Nat} {q6 : Nat → Nat} {b L i : Nat} {xs : Nat → Int32} {Inv : (Nat → Bun) → (Nat → Lon) → Bun → Lon → Prop} {C : Nat → Bun} {N : Nat → Lon} {S : Bun} {J : Lon} {H : Heap} {locs : List Loc} {ls : Array Slot} (hC : CallFix p m c cL_law 4 s args wsL_law RL) (hA : ∀ q : Nat, s.heap.size ≤ q → A q) (hK : va_K g.1 vwCl (tysG g.2) s) (hE : E5 aK aV A s) (hX : va_X b L xs s s.heap) (hbl : b < s.heap.size) (hbA : ¬ A b) (hi : i + 7 ≤ L) (hL : L ≤ 448) (ho : lo_pace Inv) (hI : Inv C N S J) (hw : Wd g.1 A s.heap (wC g q (C, N) ++ wM g q6 (S, J)) H locs) (hl : lv_has ls 4 [(0, .ref b), (1, .ref (q 0 0)), (2, .ref (q6 0)), (3, .int (nI i))]) (kk : ∀ (C : Nat → Bun) (N : Nat → Lon) (S : Bun) (J : Lon) (H : Heap) (locs : List Loc), Inv C N S J → Wd g.1 A s.heap (wC g q (C, N) ++ wM g q6 (S, J)) H locs → W p l e room_1 s m args below meth c H locs 244 4135 Q (F0 m 1442 ls [])) : W p l e room_1 s m args below meth c H locs 244 4135 Q (F0 m 433 ls []) := by
  obtain ⟨hx, hb, -, hown, hts⟩ := id hC
  have hi1 : vp_in (nI i + (1 : Int32)) L := by rw [show (nI i + (1 : Int32)) = nI (i + 1) from nI_add i 1]; exact vp_in_nI (by omega) (by omega)
  have hi2 : vp_in (nI i + (2 : Int32)) L := by rw [show (nI i + (2 : Int32)) = nI (i + 2) from nI_add i 2]; exact vp_in_nI (by omega) (by omega)
  have hi3 : vp_in (nI i + (3 : Int32)) L := by rw [show (nI i + (3 : Int32)) = nI (i + 3) from nI_add i 3]; exact vp_in_nI (by omega) (by omega)
  have hi4 : vp_in (nI i + (4 : Int32)) L := by rw [show (nI i + (4 : Int32)) = nI (i + 4) from nI_add i 4]; exact vp_in_nI (by omega) (by omega)
  have hi5 : vp_in (nI i + (5 : Int32)) L := by rw [show (nI i + (5 : Int32)) = nI (i + 5) from nI_add i 5]; exact vp_in_nI (by omega) (by omega)
  have hi6 : vp_in (nI i + (6 : Int32)) L := by rw [show (nI i + (6 : Int32)) = nI (i + 6) from nI_add i 6]; exact vp_in_nI (by omega) (by omega)
  refine lv_aload_n hx hb dL_law_433 rfl (lv_at hl 1 rfl) ?_
  refine lv_aload_n hx hb dL_law_434 rfl (lv_at hl 0 rfl) ?_
  refine lv_iload_n hx hb dL_law_435 rfl (lv_at hl 3 rfl) ?_
  refine lv_iconst (v := (1 : Int32)) hx hb dL_law_436 (by decide) ?_
  refine lv_iadd hx hb dL_law_437 ?_
  refine va_sld hx hb hX hbl hbA hw.2.2 hi1 dL_law_438 ?_
  refine lv_aload_n hx hb dL_law_439 rfl (lv_at hl 0 rfl) ?_
  refine lv_iload_n hx hb dL_law_440 rfl (lv_at hl 3 rfl) ?_
  refine lv_iconst (v := (2 : Int32)) hx hb dL_law_441 (by decide) ?_
  refine lv_iadd hx hb dL_law_442 ?_
  refine va_sld hx hb hX hbl hbA hw.2.2 hi2 dL_law_443 ?_
  have h := ho C N S J (xs ((nI i) + (1 : Int32)).toNatClampNeg) (xs ((nI i) + (2 : Int32)).toNatClampNeg) hI
  refine lcalli (w1 := (fun u9 => wC g q u9 ++ wM g q6 (S, J))) (va_runV (As := [.int (xs ((nI i) + (1 : Int32)).toNatClampNeg), .int (xs ((nI i) + (2 : Int32)).toNatClampNeg)]) (rest := []) hC (kX5_pace l g aK aV q H.size C N (xs ((nI i) + (1 : Int32)).toNatClampNeg) (xs ((nI i) + (2 : Int32)).toNatClampNeg) _ h) (cwV 2 hts gL_law_X5_pace rfl rfl rfl (by decide +kernel) ⟨Nat.le_of_ble_eq_true rfl, Nat.le_of_ble_eq_true rfl⟩) (mpreV (E5_ok aK aV) hK hE hA hw sLC1 0 rfl rfl) rfl rfl hl.1 rfl (lv_room (Nat.le_of_ble_eq_true rfl)) dL_law_444 ⟨Nat.le_of_ble_eq_true rfl, Nat.le_of_ble_eq_true rfl⟩) hA hw sLC1 (fun u9 => sLC u9) (fun r1 u2 H locs h hw => ?_)
  obtain ⟨C1, N1⟩ := u2
  obtain ⟨hu, h⟩ := h
  replace hu : N = N1 := hu.symm
  subst hu
  refine lv_aload_n hx hb dL_law_447 rfl (lv_at hl 2 rfl) ?_
  refine lv_aload_n hx hb dL_law_448 rfl (lv_at hl 0 rfl) ?_
  refine lv_iload_n hx hb dL_law_449 rfl (lv_at hl 3 rfl) ?_
  refine lv_iconst (v := (1 : Int32)) hx hb dL_law_450 (by decide) ?_
  refine lv_iadd hx hb dL_law_451 ?_
  refine va_sld hx hb hX hbl hbA hw.2.2 hi1 dL_law_452 ?_
  refine lv_aload_n hx hb dL_law_453 rfl (lv_at hl 0 rfl) ?_
  refine lv_iload_n hx hb dL_law_454 rfl (lv_at hl 3 rfl) ?_
  refine lv_iconst (v := (2 : Int32)) hx hb dL_law_455 (by decide) ?_
  refine lv_iadd hx hb dL_law_456 ?_
  refine va_sld hx hb hX hbl hbA hw.2.2 hi2 dL_law_457 ?_
  refine lcalli (w1 := (fun u9 => wC g q (C1, N) ++ wM g q6 u9)) (va_runV (As := [.int (xs ((nI i) + (1 : Int32)).toNatClampNeg), .int (xs ((nI i) + (2 : Int32)).toNatClampNeg)]) (rest := [.int r1]) hC (kX6_pace l g q6 H.size S J (xs ((nI i) + (1 : Int32)).toNatClampNeg) (xs ((nI i) + (2 : Int32)).toNatClampNeg) _ h) (cwV 2 hts gL_law_X6_pace rfl rfl rfl (by decide +kernel) ⟨Nat.le_of_ble_eq_true rfl, Nat.le_of_ble_eq_true rfl⟩) (mpreV E0_ok hK trivial hA hw sLM1 0 rfl rfl) rfl rfl hl.1 rfl (lv_room (Nat.le_of_ble_eq_true rfl)) dL_law_458 ⟨Nat.le_of_ble_eq_true rfl, Nat.le_of_ble_eq_true rfl⟩) hA hw sLM1 (fun u9 => sLM u9) (fun r3 u4 H locs h hw => ?_)
  obtain ⟨S1, J1⟩ := u4
  obtain ⟨hu, h⟩ := h
  replace hu : J = J1 := hu.symm
  subst hu
  refine lv_icmp_eq (tgt := 1442) hx hb dL_law_461 (by decide) (fun c => ?_) (fun c => absurd h.1 c)
  exact kk C1 N S1 J _ _ h.2 hw
set_option maxRecDepth 100000 in
set_option maxHeartbeats 4000000 in
theorem law_as {p : Program} {l : Launch} {e : Env} {s : State} {m : MethodId} {args : Array Value} {below : List Frame} {meth : Method} {c : Code} {A : Nat → Prop} {Q : State → Prop} {g : Gl} {aK aV : Nat → Nat} {q : Nat → Nat → Nat} {q6 : Nat → Nat} {b L i : Nat} {xs : Nat → Int32} {Inv : (Nat → Bun) → (Nat → Lon) → Bun → Lon → Prop} {C : Nat → Bun} {N : Nat → Lon} {S : Bun} {J : Lon} {H : Heap} {locs : List Loc} {ls : Array Slot} (hC : CallFix p m c cL_law 4 s args wsL_law RL) (hA : ∀ q : Nat, s.heap.size ≤ q → A q) (hK : va_K g.1 vwCl (tysG g.2) s) (hE : E5 aK aV A s) (hX : va_X b L xs s s.heap) (hbl : b < s.heap.size) (hbA : ¬ A b) (hi : i + 7 ≤ L) (hL : L ≤ 448) (ho : lo_as Inv) (hI : Inv C N S J) (hw : Wd g.1 A s.heap (wC g q (C, N) ++ wM g q6 (S, J)) H locs) (hl : lv_has ls 4 [(0, .ref b), (1, .ref (q 0 0)), (2, .ref (q6 0)), (3, .int (nI i))]) (kk : ∀ (C : Nat → Bun) (N : Nat → Lon) (S : Bun) (J : Lon) (H : Heap) (locs : List Loc), Inv C N S J → Wd g.1 A s.heap (wC g q (C, N) ++ wM g q6 (S, J)) H locs → W p l e room_1 s m args below meth c H locs 244 4135 Q (F0 m 1442 ls [])) : W p l e room_1 s m args below meth c H locs 244 4135 Q (F0 m 466 ls []) := by
  obtain ⟨hx, hb, -, hown, hts⟩ := id hC
  have hi1 : vp_in (nI i + (1 : Int32)) L := by rw [show (nI i + (1 : Int32)) = nI (i + 1) from nI_add i 1]; exact vp_in_nI (by omega) (by omega)
  have hi2 : vp_in (nI i + (2 : Int32)) L := by rw [show (nI i + (2 : Int32)) = nI (i + 2) from nI_add i 2]; exact vp_in_nI (by omega) (by omega)
  have hi3 : vp_in (nI i + (3 : Int32)) L := by rw [show (nI i + (3 : Int32)) = nI (i + 3) from nI_add i 3]; exact vp_in_nI (by omega) (by omega)
  have hi4 : vp_in (nI i + (4 : Int32)) L := by rw [show (nI i + (4 : Int32)) = nI (i + 4) from nI_add i 4]; exact vp_in_nI (by omega) (by omega)
  have hi5 : vp_in (nI i + (5 : Int32)) L := by rw [show (nI i + (5 : Int32)) = nI (i + 5) from nI_add i 5]; exact vp_in_nI (by omega) (by omega)
  have hi6 : vp_in (nI i + (6 : Int32)) L := by rw [show (nI i + (6 : Int32)) = nI (i + 6) from nI_add i 6]; exact vp_in_nI (by omega) (by omega)
  refine lv_aload_n hx hb dL_law_466 rfl (lv_at hl 1 rfl) ?_
  refine lv_aload_n hx hb dL_law_467 rfl (lv_at hl 0 rfl) ?_
  refine lv_iload_n hx hb dL_law_468 rfl (lv_at hl 3 rfl) ?_
  refine lv_iconst (v := (1 : Int32)) hx hb dL_law_469 (by decide) ?_
  refine lv_iadd hx hb dL_law_470 ?_
  refine va_sld hx hb hX hbl hbA hw.2.2 hi1 dL_law_471 ?_
  refine lv_aload_n hx hb dL_law_472 rfl (lv_at hl 0 rfl) ?_
  refine lv_iload_n hx hb dL_law_473 rfl (lv_at hl 3 rfl) ?_
  refine lv_iconst (v := (2 : Int32)) hx hb dL_law_474 (by decide) ?_
  refine lv_iadd hx hb dL_law_475 ?_
  refine va_sld hx hb hX hbl hbA hw.2.2 hi2 dL_law_476 ?_
  have h := ho C N S J (xs ((nI i) + (1 : Int32)).toNatClampNeg) (xs ((nI i) + (2 : Int32)).toNatClampNeg) hI
  refine lcalli (w1 := (fun u9 => wC g q u9 ++ wM g q6 (S, J))) (va_runV (As := [.int (xs ((nI i) + (1 : Int32)).toNatClampNeg), .int (xs ((nI i) + (2 : Int32)).toNatClampNeg)]) (rest := []) hC (kX5_as l g aK aV q H.size C N (xs ((nI i) + (1 : Int32)).toNatClampNeg) (xs ((nI i) + (2 : Int32)).toNatClampNeg) _ h) (cwV 2 hts gL_law_X5_as rfl rfl rfl (by decide +kernel) ⟨Nat.le_of_ble_eq_true rfl, Nat.le_of_ble_eq_true rfl⟩) (mpreV (E5_ok aK aV) hK hE hA hw sLC1 0 rfl rfl) rfl rfl hl.1 rfl (lv_room (Nat.le_of_ble_eq_true rfl)) dL_law_477 ⟨Nat.le_of_ble_eq_true rfl, Nat.le_of_ble_eq_true rfl⟩) hA hw sLC1 (fun u9 => sLC u9) (fun r1 u2 H locs h hw => ?_)
  obtain ⟨C1, N1⟩ := u2
  obtain ⟨hu, h⟩ := h
  replace hu : N = N1 := hu.symm
  subst hu
  refine lv_aload_n hx hb dL_law_480 rfl (lv_at hl 2 rfl) ?_
  refine lv_aload_n hx hb dL_law_481 rfl (lv_at hl 0 rfl) ?_
  refine lv_iload_n hx hb dL_law_482 rfl (lv_at hl 3 rfl) ?_
  refine lv_iconst (v := (1 : Int32)) hx hb dL_law_483 (by decide) ?_
  refine lv_iadd hx hb dL_law_484 ?_
  refine va_sld hx hb hX hbl hbA hw.2.2 hi1 dL_law_485 ?_
  refine lv_aload_n hx hb dL_law_486 rfl (lv_at hl 0 rfl) ?_
  refine lv_iload_n hx hb dL_law_487 rfl (lv_at hl 3 rfl) ?_
  refine lv_iconst (v := (2 : Int32)) hx hb dL_law_488 (by decide) ?_
  refine lv_iadd hx hb dL_law_489 ?_
  refine va_sld hx hb hX hbl hbA hw.2.2 hi2 dL_law_490 ?_
  refine lcalli (w1 := (fun u9 => wC g q (C1, N) ++ wM g q6 u9)) (va_runV (As := [.int (xs ((nI i) + (1 : Int32)).toNatClampNeg), .int (xs ((nI i) + (2 : Int32)).toNatClampNeg)]) (rest := [.int r1]) hC (kX6_as l g q6 H.size S J (xs ((nI i) + (1 : Int32)).toNatClampNeg) (xs ((nI i) + (2 : Int32)).toNatClampNeg) _ h) (cwV 2 hts gL_law_X6_as rfl rfl rfl (by decide +kernel) ⟨Nat.le_of_ble_eq_true rfl, Nat.le_of_ble_eq_true rfl⟩) (mpreV E0_ok hK trivial hA hw sLM1 0 rfl rfl) rfl rfl hl.1 rfl (lv_room (Nat.le_of_ble_eq_true rfl)) dL_law_491 ⟨Nat.le_of_ble_eq_true rfl, Nat.le_of_ble_eq_true rfl⟩) hA hw sLM1 (fun u9 => sLM u9) (fun r3 u4 H locs h hw => ?_)
  obtain ⟨S1, J1⟩ := u4
  obtain ⟨hu, h⟩ := h
  replace hu : J = J1 := hu.symm
  subst hu
  refine lv_icmp_eq (tgt := 1442) hx hb dL_law_494 (by decide) (fun c => ?_) (fun c => absurd h.1 c)
  exact kk C1 N S1 J _ _ h.2 hw
set_option maxRecDepth 100000 in
set_option maxHeartbeats 4000000 in
theorem law_may {p : Program} {l : Launch} {e : Env} {s : State} {m : MethodId} {args : Array Value} {below : List Frame} {meth : Method} {c : Code} {A : Nat → Prop} {Q : State → Prop} {g : Gl} {aK aV : Nat → Nat} {q : Nat → Nat → Nat} {q6 : Nat → Nat} {b L i : Nat} {xs : Nat → Int32} {Inv : (Nat → Bun) → (Nat → Lon) → Bun → Lon → Prop} {C : Nat → Bun} {N : Nat → Lon} {S : Bun} {J : Lon} {H : Heap} {locs : List Loc} {ls : Array Slot} (hC : CallFix p m c cL_law 4 s args wsL_law RL) (hA : ∀ q : Nat, s.heap.size ≤ q → A q) (hK : va_K g.1 vwCl (tysG g.2) s) (hE : E5 aK aV A s) (hX : va_X b L xs s s.heap) (hbl : b < s.heap.size) (hbA : ¬ A b) (hi : i + 7 ≤ L) (hL : L ≤ 448) (ho : lo_may Inv) (hI : Inv C N S J) (hw : Wd g.1 A s.heap (wC g q (C, N) ++ wM g q6 (S, J)) H locs) (hl : lv_has ls 4 [(0, .ref b), (1, .ref (q 0 0)), (2, .ref (q6 0)), (3, .int (nI i))]) (kk : ∀ (C : Nat → Bun) (N : Nat → Lon) (S : Bun) (J : Lon) (H : Heap) (locs : List Loc), Inv C N S J → Wd g.1 A s.heap (wC g q (C, N) ++ wM g q6 (S, J)) H locs → W p l e room_1 s m args below meth c H locs 244 4135 Q (F0 m 1442 ls [])) : W p l e room_1 s m args below meth c H locs 244 4135 Q (F0 m 499 ls []) := by
  obtain ⟨hx, hb, -, hown, hts⟩ := id hC
  have hi1 : vp_in (nI i + (1 : Int32)) L := by rw [show (nI i + (1 : Int32)) = nI (i + 1) from nI_add i 1]; exact vp_in_nI (by omega) (by omega)
  have hi2 : vp_in (nI i + (2 : Int32)) L := by rw [show (nI i + (2 : Int32)) = nI (i + 2) from nI_add i 2]; exact vp_in_nI (by omega) (by omega)
  have hi3 : vp_in (nI i + (3 : Int32)) L := by rw [show (nI i + (3 : Int32)) = nI (i + 3) from nI_add i 3]; exact vp_in_nI (by omega) (by omega)
  have hi4 : vp_in (nI i + (4 : Int32)) L := by rw [show (nI i + (4 : Int32)) = nI (i + 4) from nI_add i 4]; exact vp_in_nI (by omega) (by omega)
  have hi5 : vp_in (nI i + (5 : Int32)) L := by rw [show (nI i + (5 : Int32)) = nI (i + 5) from nI_add i 5]; exact vp_in_nI (by omega) (by omega)
  have hi6 : vp_in (nI i + (6 : Int32)) L := by rw [show (nI i + (6 : Int32)) = nI (i + 6) from nI_add i 6]; exact vp_in_nI (by omega) (by omega)
  by_cases hz : xs (nI i + (6 : Int32)).toNatClampNeg = 0
  · refine lv_aload_n hx hb dL_law_499 rfl (lv_at hl 1 rfl) ?_
    refine lv_aload_n hx hb dL_law_500 rfl (lv_at hl 0 rfl) ?_
    refine lv_iload_n hx hb dL_law_501 rfl (lv_at hl 3 rfl) ?_
    refine lv_iconst (v := (1 : Int32)) hx hb dL_law_502 (by decide) ?_
    refine lv_iadd hx hb dL_law_503 ?_
    refine va_sld hx hb hX hbl hbA hw.2.2 hi1 dL_law_504 ?_
    refine lv_aload_n hx hb dL_law_505 rfl (lv_at hl 0 rfl) ?_
    refine lv_iload_n hx hb dL_law_506 rfl (lv_at hl 3 rfl) ?_
    refine lv_iconst (v := (2 : Int32)) hx hb dL_law_507 (by decide) ?_
    refine lv_iadd hx hb dL_law_508 ?_
    refine va_sld hx hb hX hbl hbA hw.2.2 hi2 dL_law_509 ?_
    refine lv_aload_n hx hb dL_law_510 rfl (lv_at hl 0 rfl) ?_
    refine lv_iload_n hx hb dL_law_511 rfl (lv_at hl 3 rfl) ?_
    refine lv_iconst (v := (3 : Int32)) hx hb dL_law_512 (by decide) ?_
    refine lv_iadd hx hb dL_law_513 ?_
    refine va_sld hx hb hX hbl hbA hw.2.2 hi3 dL_law_514 ?_
    refine lv_aload_n hx hb dL_law_515 rfl (lv_at hl 0 rfl) ?_
    refine lv_iload_n hx hb dL_law_516 rfl (lv_at hl 3 rfl) ?_
    refine lv_iconst (v := (4 : Int32)) hx hb dL_law_517 (by decide) ?_
    refine lv_iadd hx hb dL_law_518 ?_
    refine va_sld hx hb hX hbl hbA hw.2.2 hi4 dL_law_519 ?_
    refine lv_aload_n hx hb dL_law_520 rfl (lv_at hl 0 rfl) ?_
    refine lv_iload_n hx hb dL_law_521 rfl (lv_at hl 3 rfl) ?_
    refine lv_iconst (v := (5 : Int32)) hx hb dL_law_522 (by decide) ?_
    refine lv_iadd hx hb dL_law_523 ?_
    refine va_sld hx hb hX hbl hbA hw.2.2 hi5 dL_law_524 ?_
    refine lv_aload_n hx hb dL_law_525 rfl (lv_at hl 0 rfl) ?_
    refine lv_iload_n hx hb dL_law_526 rfl (lv_at hl 3 rfl) ?_
    refine lv_bipush (v := (6 : Int32)) hx hb dL_law_527 (by decide) ?_
    refine lv_iadd hx hb dL_law_529 ?_
    refine va_sld hx hb hX hbl hbA hw.2.2 hi6 dL_law_530 ?_
    refine lv_if_eq (tgt := 538) hx hb dL_law_531 (by decide) (fun c => ?_) (fun c => absurd hz c)
    refine lv_iconst (v := (0 : Int32)) hx hb dL_law_538 (by decide) ?_
    have h := ho C N S J (xs ((nI i) + (1 : Int32)).toNatClampNeg) (xs ((nI i) + (2 : Int32)).toNatClampNeg) (xs ((nI i) + (3 : Int32)).toNatClampNeg) (xs ((nI i) + (4 : Int32)).toNatClampNeg) (xs ((nI i) + (5 : Int32)).toNatClampNeg) (0 : Int32) (Or.inl rfl) hI
    refine lcalli (w1 := (fun u9 => wC g q u9 ++ wM g q6 (S, J))) (va_runV (As := [.int (xs ((nI i) + (1 : Int32)).toNatClampNeg), .int (xs ((nI i) + (2 : Int32)).toNatClampNeg), .int (xs ((nI i) + (3 : Int32)).toNatClampNeg), .int (xs ((nI i) + (4 : Int32)).toNatClampNeg), .int (xs ((nI i) + (5 : Int32)).toNatClampNeg), .int (0 : Int32)]) (rest := []) hC (kX5_may l g aK aV q H.size C N (xs ((nI i) + (1 : Int32)).toNatClampNeg) (xs ((nI i) + (2 : Int32)).toNatClampNeg) (xs ((nI i) + (3 : Int32)).toNatClampNeg) (xs ((nI i) + (4 : Int32)).toNatClampNeg) (xs ((nI i) + (5 : Int32)).toNatClampNeg) (0 : Int32) _ h) (cwV 6 hts gL_law_X5_may rfl rfl rfl (by decide +kernel) ⟨Nat.le_of_ble_eq_true rfl, Nat.le_of_ble_eq_true rfl⟩) (mpreV (E5_ok aK aV) hK hE hA hw sLC1 0 rfl rfl) rfl rfl hl.1 rfl (lv_room (Nat.le_of_ble_eq_true rfl)) dL_law_539 ⟨Nat.le_of_ble_eq_true rfl, Nat.le_of_ble_eq_true rfl⟩) hA hw sLC1 (fun u9 => sLC u9) (fun r1 u2 H locs h hw => ?_)
    obtain ⟨C1, N1⟩ := u2
    obtain ⟨hu, h⟩ := h
    replace hu : N = N1 := hu.symm
    subst hu
    refine lv_aload_n hx hb dL_law_542 rfl (lv_at hl 2 rfl) ?_
    refine lv_aload_n hx hb dL_law_543 rfl (lv_at hl 0 rfl) ?_
    refine lv_iload_n hx hb dL_law_544 rfl (lv_at hl 3 rfl) ?_
    refine lv_iconst (v := (1 : Int32)) hx hb dL_law_545 (by decide) ?_
    refine lv_iadd hx hb dL_law_546 ?_
    refine va_sld hx hb hX hbl hbA hw.2.2 hi1 dL_law_547 ?_
    refine lv_aload_n hx hb dL_law_548 rfl (lv_at hl 0 rfl) ?_
    refine lv_iload_n hx hb dL_law_549 rfl (lv_at hl 3 rfl) ?_
    refine lv_iconst (v := (2 : Int32)) hx hb dL_law_550 (by decide) ?_
    refine lv_iadd hx hb dL_law_551 ?_
    refine va_sld hx hb hX hbl hbA hw.2.2 hi2 dL_law_552 ?_
    refine lv_aload_n hx hb dL_law_553 rfl (lv_at hl 0 rfl) ?_
    refine lv_iload_n hx hb dL_law_554 rfl (lv_at hl 3 rfl) ?_
    refine lv_iconst (v := (3 : Int32)) hx hb dL_law_555 (by decide) ?_
    refine lv_iadd hx hb dL_law_556 ?_
    refine va_sld hx hb hX hbl hbA hw.2.2 hi3 dL_law_557 ?_
    refine lv_aload_n hx hb dL_law_558 rfl (lv_at hl 0 rfl) ?_
    refine lv_iload_n hx hb dL_law_559 rfl (lv_at hl 3 rfl) ?_
    refine lv_iconst (v := (4 : Int32)) hx hb dL_law_560 (by decide) ?_
    refine lv_iadd hx hb dL_law_561 ?_
    refine va_sld hx hb hX hbl hbA hw.2.2 hi4 dL_law_562 ?_
    refine lv_aload_n hx hb dL_law_563 rfl (lv_at hl 0 rfl) ?_
    refine lv_iload_n hx hb dL_law_564 rfl (lv_at hl 3 rfl) ?_
    refine lv_iconst (v := (5 : Int32)) hx hb dL_law_565 (by decide) ?_
    refine lv_iadd hx hb dL_law_566 ?_
    refine va_sld hx hb hX hbl hbA hw.2.2 hi5 dL_law_567 ?_
    refine lv_aload_n hx hb dL_law_568 rfl (lv_at hl 0 rfl) ?_
    refine lv_iload_n hx hb dL_law_569 rfl (lv_at hl 3 rfl) ?_
    refine lv_bipush (v := (6 : Int32)) hx hb dL_law_570 (by decide) ?_
    refine lv_iadd hx hb dL_law_572 ?_
    refine va_sld hx hb hX hbl hbA hw.2.2 hi6 dL_law_573 ?_
    refine lv_if_eq (tgt := 581) hx hb dL_law_574 (by decide) (fun c => ?_) (fun c => absurd hz c)
    refine lv_iconst (v := (0 : Int32)) hx hb dL_law_581 (by decide) ?_
    refine lcalli (w1 := (fun u9 => wC g q (C1, N) ++ wM g q6 u9)) (va_runV (As := [.int (xs ((nI i) + (1 : Int32)).toNatClampNeg), .int (xs ((nI i) + (2 : Int32)).toNatClampNeg), .int (xs ((nI i) + (3 : Int32)).toNatClampNeg), .int (xs ((nI i) + (4 : Int32)).toNatClampNeg), .int (xs ((nI i) + (5 : Int32)).toNatClampNeg), .int (0 : Int32)]) (rest := [.int r1]) hC (kX6_may l g q6 H.size S J (xs ((nI i) + (1 : Int32)).toNatClampNeg) (xs ((nI i) + (2 : Int32)).toNatClampNeg) (xs ((nI i) + (3 : Int32)).toNatClampNeg) (xs ((nI i) + (4 : Int32)).toNatClampNeg) (xs ((nI i) + (5 : Int32)).toNatClampNeg) (0 : Int32) _ h) (cwV 6 hts gL_law_X6_may rfl rfl rfl (by decide +kernel) ⟨Nat.le_of_ble_eq_true rfl, Nat.le_of_ble_eq_true rfl⟩) (mpreV E0_ok hK trivial hA hw sLM1 0 rfl rfl) rfl rfl hl.1 rfl (lv_room (Nat.le_of_ble_eq_true rfl)) dL_law_582 ⟨Nat.le_of_ble_eq_true rfl, Nat.le_of_ble_eq_true rfl⟩) hA hw sLM1 (fun u9 => sLM u9) (fun r3 u4 H locs h hw => ?_)
    obtain ⟨S1, J1⟩ := u4
    obtain ⟨hu, h⟩ := h
    replace hu : J = J1 := hu.symm
    subst hu
    refine lv_icmp_eq (tgt := 1442) hx hb dL_law_585 (by decide) (fun c => ?_) (fun c => absurd h.1 c)
    exact kk C1 N S1 J _ _ h.2 hw
  · refine lv_aload_n hx hb dL_law_499 rfl (lv_at hl 1 rfl) ?_
    refine lv_aload_n hx hb dL_law_500 rfl (lv_at hl 0 rfl) ?_
    refine lv_iload_n hx hb dL_law_501 rfl (lv_at hl 3 rfl) ?_
    refine lv_iconst (v := (1 : Int32)) hx hb dL_law_502 (by decide) ?_
    refine lv_iadd hx hb dL_law_503 ?_
    refine va_sld hx hb hX hbl hbA hw.2.2 hi1 dL_law_504 ?_
    refine lv_aload_n hx hb dL_law_505 rfl (lv_at hl 0 rfl) ?_
    refine lv_iload_n hx hb dL_law_506 rfl (lv_at hl 3 rfl) ?_
    refine lv_iconst (v := (2 : Int32)) hx hb dL_law_507 (by decide) ?_
    refine lv_iadd hx hb dL_law_508 ?_
    refine va_sld hx hb hX hbl hbA hw.2.2 hi2 dL_law_509 ?_
    refine lv_aload_n hx hb dL_law_510 rfl (lv_at hl 0 rfl) ?_
    refine lv_iload_n hx hb dL_law_511 rfl (lv_at hl 3 rfl) ?_
    refine lv_iconst (v := (3 : Int32)) hx hb dL_law_512 (by decide) ?_
    refine lv_iadd hx hb dL_law_513 ?_
    refine va_sld hx hb hX hbl hbA hw.2.2 hi3 dL_law_514 ?_
    refine lv_aload_n hx hb dL_law_515 rfl (lv_at hl 0 rfl) ?_
    refine lv_iload_n hx hb dL_law_516 rfl (lv_at hl 3 rfl) ?_
    refine lv_iconst (v := (4 : Int32)) hx hb dL_law_517 (by decide) ?_
    refine lv_iadd hx hb dL_law_518 ?_
    refine va_sld hx hb hX hbl hbA hw.2.2 hi4 dL_law_519 ?_
    refine lv_aload_n hx hb dL_law_520 rfl (lv_at hl 0 rfl) ?_
    refine lv_iload_n hx hb dL_law_521 rfl (lv_at hl 3 rfl) ?_
    refine lv_iconst (v := (5 : Int32)) hx hb dL_law_522 (by decide) ?_
    refine lv_iadd hx hb dL_law_523 ?_
    refine va_sld hx hb hX hbl hbA hw.2.2 hi5 dL_law_524 ?_
    refine lv_aload_n hx hb dL_law_525 rfl (lv_at hl 0 rfl) ?_
    refine lv_iload_n hx hb dL_law_526 rfl (lv_at hl 3 rfl) ?_
    refine lv_bipush (v := (6 : Int32)) hx hb dL_law_527 (by decide) ?_
    refine lv_iadd hx hb dL_law_529 ?_
    refine va_sld hx hb hX hbl hbA hw.2.2 hi6 dL_law_530 ?_
    refine lv_if_eq (tgt := 538) hx hb dL_law_531 (by decide) (fun c => absurd c hz) (fun c => ?_)
    refine lv_iconst (v := (1 : Int32)) hx hb dL_law_534 (by decide) ?_
    refine lv_goto (tgt := 539) hx hb dL_law_535 (by decide) ?_
    have h := ho C N S J (xs ((nI i) + (1 : Int32)).toNatClampNeg) (xs ((nI i) + (2 : Int32)).toNatClampNeg) (xs ((nI i) + (3 : Int32)).toNatClampNeg) (xs ((nI i) + (4 : Int32)).toNatClampNeg) (xs ((nI i) + (5 : Int32)).toNatClampNeg) (1 : Int32) (Or.inr rfl) hI
    refine lcalli (w1 := (fun u9 => wC g q u9 ++ wM g q6 (S, J))) (va_runV (As := [.int (xs ((nI i) + (1 : Int32)).toNatClampNeg), .int (xs ((nI i) + (2 : Int32)).toNatClampNeg), .int (xs ((nI i) + (3 : Int32)).toNatClampNeg), .int (xs ((nI i) + (4 : Int32)).toNatClampNeg), .int (xs ((nI i) + (5 : Int32)).toNatClampNeg), .int (1 : Int32)]) (rest := []) hC (kX5_may l g aK aV q H.size C N (xs ((nI i) + (1 : Int32)).toNatClampNeg) (xs ((nI i) + (2 : Int32)).toNatClampNeg) (xs ((nI i) + (3 : Int32)).toNatClampNeg) (xs ((nI i) + (4 : Int32)).toNatClampNeg) (xs ((nI i) + (5 : Int32)).toNatClampNeg) (1 : Int32) _ h) (cwV 6 hts gL_law_X5_may rfl rfl rfl (by decide +kernel) ⟨Nat.le_of_ble_eq_true rfl, Nat.le_of_ble_eq_true rfl⟩) (mpreV (E5_ok aK aV) hK hE hA hw sLC1 0 rfl rfl) rfl rfl hl.1 rfl (lv_room (Nat.le_of_ble_eq_true rfl)) dL_law_539 ⟨Nat.le_of_ble_eq_true rfl, Nat.le_of_ble_eq_true rfl⟩) hA hw sLC1 (fun u9 => sLC u9) (fun r1 u2 H locs h hw => ?_)
    obtain ⟨C1, N1⟩ := u2
    obtain ⟨hu, h⟩ := h
    replace hu : N = N1 := hu.symm
    subst hu
    refine lv_aload_n hx hb dL_law_542 rfl (lv_at hl 2 rfl) ?_
    refine lv_aload_n hx hb dL_law_543 rfl (lv_at hl 0 rfl) ?_
    refine lv_iload_n hx hb dL_law_544 rfl (lv_at hl 3 rfl) ?_
    refine lv_iconst (v := (1 : Int32)) hx hb dL_law_545 (by decide) ?_
    refine lv_iadd hx hb dL_law_546 ?_
    refine va_sld hx hb hX hbl hbA hw.2.2 hi1 dL_law_547 ?_
    refine lv_aload_n hx hb dL_law_548 rfl (lv_at hl 0 rfl) ?_
    refine lv_iload_n hx hb dL_law_549 rfl (lv_at hl 3 rfl) ?_
    refine lv_iconst (v := (2 : Int32)) hx hb dL_law_550 (by decide) ?_
    refine lv_iadd hx hb dL_law_551 ?_
    refine va_sld hx hb hX hbl hbA hw.2.2 hi2 dL_law_552 ?_
    refine lv_aload_n hx hb dL_law_553 rfl (lv_at hl 0 rfl) ?_
    refine lv_iload_n hx hb dL_law_554 rfl (lv_at hl 3 rfl) ?_
    refine lv_iconst (v := (3 : Int32)) hx hb dL_law_555 (by decide) ?_
    refine lv_iadd hx hb dL_law_556 ?_
    refine va_sld hx hb hX hbl hbA hw.2.2 hi3 dL_law_557 ?_
    refine lv_aload_n hx hb dL_law_558 rfl (lv_at hl 0 rfl) ?_
    refine lv_iload_n hx hb dL_law_559 rfl (lv_at hl 3 rfl) ?_
    refine lv_iconst (v := (4 : Int32)) hx hb dL_law_560 (by decide) ?_
    refine lv_iadd hx hb dL_law_561 ?_
    refine va_sld hx hb hX hbl hbA hw.2.2 hi4 dL_law_562 ?_
    refine lv_aload_n hx hb dL_law_563 rfl (lv_at hl 0 rfl) ?_
    refine lv_iload_n hx hb dL_law_564 rfl (lv_at hl 3 rfl) ?_
    refine lv_iconst (v := (5 : Int32)) hx hb dL_law_565 (by decide) ?_
    refine lv_iadd hx hb dL_law_566 ?_
    refine va_sld hx hb hX hbl hbA hw.2.2 hi5 dL_law_567 ?_
    refine lv_aload_n hx hb dL_law_568 rfl (lv_at hl 0 rfl) ?_
    refine lv_iload_n hx hb dL_law_569 rfl (lv_at hl 3 rfl) ?_
    refine lv_bipush (v := (6 : Int32)) hx hb dL_law_570 (by decide) ?_
    refine lv_iadd hx hb dL_law_572 ?_
    refine va_sld hx hb hX hbl hbA hw.2.2 hi6 dL_law_573 ?_
    refine lv_if_eq (tgt := 581) hx hb dL_law_574 (by decide) (fun c => absurd c hz) (fun c => ?_)
    refine lv_iconst (v := (1 : Int32)) hx hb dL_law_577 (by decide) ?_
    refine lv_goto (tgt := 582) hx hb dL_law_578 (by decide) ?_
    refine lcalli (w1 := (fun u9 => wC g q (C1, N) ++ wM g q6 u9)) (va_runV (As := [.int (xs ((nI i) + (1 : Int32)).toNatClampNeg), .int (xs ((nI i) + (2 : Int32)).toNatClampNeg), .int (xs ((nI i) + (3 : Int32)).toNatClampNeg), .int (xs ((nI i) + (4 : Int32)).toNatClampNeg), .int (xs ((nI i) + (5 : Int32)).toNatClampNeg), .int (1 : Int32)]) (rest := [.int r1]) hC (kX6_may l g q6 H.size S J (xs ((nI i) + (1 : Int32)).toNatClampNeg) (xs ((nI i) + (2 : Int32)).toNatClampNeg) (xs ((nI i) + (3 : Int32)).toNatClampNeg) (xs ((nI i) + (4 : Int32)).toNatClampNeg) (xs ((nI i) + (5 : Int32)).toNatClampNeg) (1 : Int32) _ h) (cwV 6 hts gL_law_X6_may rfl rfl rfl (by decide +kernel) ⟨Nat.le_of_ble_eq_true rfl, Nat.le_of_ble_eq_true rfl⟩) (mpreV E0_ok hK trivial hA hw sLM1 0 rfl rfl) rfl rfl hl.1 rfl (lv_room (Nat.le_of_ble_eq_true rfl)) dL_law_582 ⟨Nat.le_of_ble_eq_true rfl, Nat.le_of_ble_eq_true rfl⟩) hA hw sLM1 (fun u9 => sLM u9) (fun r3 u4 H locs h hw => ?_)
    obtain ⟨S1, J1⟩ := u4
    obtain ⟨hu, h⟩ := h
    replace hu : J = J1 := hu.symm
    subst hu
    refine lv_icmp_eq (tgt := 1442) hx hb dL_law_585 (by decide) (fun c => ?_) (fun c => absurd h.1 c)
    exact kk C1 N S1 J _ _ h.2 hw
set_option maxRecDepth 100000 in
set_option maxHeartbeats 4000000 in
theorem law_best {p : Program} {l : Launch} {e : Env} {s : State} {m : MethodId} {args : Array Value} {below : List Frame} {meth : Method} {c : Code} {A : Nat → Prop} {Q : State → Prop} {g : Gl} {aK aV : Nat → Nat} {q : Nat → Nat → Nat} {q6 : Nat → Nat} {b L i : Nat} {xs : Nat → Int32} {Inv : (Nat → Bun) → (Nat → Lon) → Bun → Lon → Prop} {C : Nat → Bun} {N : Nat → Lon} {S : Bun} {J : Lon} {H : Heap} {locs : List Loc} {ls : Array Slot} (hC : CallFix p m c cL_law 4 s args wsL_law RL) (hA : ∀ q : Nat, s.heap.size ≤ q → A q) (hK : va_K g.1 vwCl (tysG g.2) s) (hE : E5 aK aV A s) (hX : va_X b L xs s s.heap) (hbl : b < s.heap.size) (hbA : ¬ A b) (hi : i + 7 ≤ L) (hL : L ≤ 448) (ho : lo_best Inv) (hI : Inv C N S J) (hw : Wd g.1 A s.heap (wC g q (C, N) ++ wM g q6 (S, J)) H locs) (hl : lv_has ls 4 [(0, .ref b), (1, .ref (q 0 0)), (2, .ref (q6 0)), (3, .int (nI i))]) (kk : ∀ (C : Nat → Bun) (N : Nat → Lon) (S : Bun) (J : Lon) (H : Heap) (locs : List Loc), Inv C N S J → Wd g.1 A s.heap (wC g q (C, N) ++ wM g q6 (S, J)) H locs → W p l e room_1 s m args below meth c H locs 244 4135 Q (F0 m 1442 ls [])) : W p l e room_1 s m args below meth c H locs 244 4135 Q (F0 m 590 ls []) := by
  obtain ⟨hx, hb, -, hown, hts⟩ := id hC
  have hi1 : vp_in (nI i + (1 : Int32)) L := by rw [show (nI i + (1 : Int32)) = nI (i + 1) from nI_add i 1]; exact vp_in_nI (by omega) (by omega)
  have hi2 : vp_in (nI i + (2 : Int32)) L := by rw [show (nI i + (2 : Int32)) = nI (i + 2) from nI_add i 2]; exact vp_in_nI (by omega) (by omega)
  have hi3 : vp_in (nI i + (3 : Int32)) L := by rw [show (nI i + (3 : Int32)) = nI (i + 3) from nI_add i 3]; exact vp_in_nI (by omega) (by omega)
  have hi4 : vp_in (nI i + (4 : Int32)) L := by rw [show (nI i + (4 : Int32)) = nI (i + 4) from nI_add i 4]; exact vp_in_nI (by omega) (by omega)
  have hi5 : vp_in (nI i + (5 : Int32)) L := by rw [show (nI i + (5 : Int32)) = nI (i + 5) from nI_add i 5]; exact vp_in_nI (by omega) (by omega)
  have hi6 : vp_in (nI i + (6 : Int32)) L := by rw [show (nI i + (6 : Int32)) = nI (i + 6) from nI_add i 6]; exact vp_in_nI (by omega) (by omega)
  refine lv_aload_n hx hb dL_law_590 rfl (lv_at hl 1 rfl) ?_
  refine lv_aload_n hx hb dL_law_591 rfl (lv_at hl 0 rfl) ?_
  refine lv_iload_n hx hb dL_law_592 rfl (lv_at hl 3 rfl) ?_
  refine lv_iconst (v := (1 : Int32)) hx hb dL_law_593 (by decide) ?_
  refine lv_iadd hx hb dL_law_594 ?_
  refine va_sld hx hb hX hbl hbA hw.2.2 hi1 dL_law_595 ?_
  refine lv_aload_n hx hb dL_law_596 rfl (lv_at hl 0 rfl) ?_
  refine lv_iload_n hx hb dL_law_597 rfl (lv_at hl 3 rfl) ?_
  refine lv_iconst (v := (2 : Int32)) hx hb dL_law_598 (by decide) ?_
  refine lv_iadd hx hb dL_law_599 ?_
  refine va_sld hx hb hX hbl hbA hw.2.2 hi2 dL_law_600 ?_
  refine lv_aload_n hx hb dL_law_601 rfl (lv_at hl 0 rfl) ?_
  refine lv_iload_n hx hb dL_law_602 rfl (lv_at hl 3 rfl) ?_
  refine lv_iconst (v := (3 : Int32)) hx hb dL_law_603 (by decide) ?_
  refine lv_iadd hx hb dL_law_604 ?_
  refine va_sld hx hb hX hbl hbA hw.2.2 hi3 dL_law_605 ?_
  have h := ho C N S J (xs ((nI i) + (1 : Int32)).toNatClampNeg) (xs ((nI i) + (2 : Int32)).toNatClampNeg) (xs ((nI i) + (3 : Int32)).toNatClampNeg) hI
  refine lcalli (w1 := (fun u9 => wC g q u9 ++ wM g q6 (S, J))) (va_runV (As := [.int (xs ((nI i) + (1 : Int32)).toNatClampNeg), .int (xs ((nI i) + (2 : Int32)).toNatClampNeg), .int (xs ((nI i) + (3 : Int32)).toNatClampNeg)]) (rest := []) hC (kX5_best l g aK aV q H.size C N (xs ((nI i) + (1 : Int32)).toNatClampNeg) (xs ((nI i) + (2 : Int32)).toNatClampNeg) (xs ((nI i) + (3 : Int32)).toNatClampNeg) _ h) (cwV 3 hts gL_law_X5_best rfl rfl rfl (by decide +kernel) ⟨Nat.le_of_ble_eq_true rfl, Nat.le_of_ble_eq_true rfl⟩) (mpreV (E5_ok aK aV) hK hE hA hw sLC1 0 rfl rfl) rfl rfl hl.1 rfl (lv_room (Nat.le_of_ble_eq_true rfl)) dL_law_606 ⟨Nat.le_of_ble_eq_true rfl, Nat.le_of_ble_eq_true rfl⟩) hA hw sLC1 (fun u9 => sLC u9) (fun r1 u2 H locs h hw => ?_)
  obtain ⟨C1, N1⟩ := u2
  obtain ⟨hu, h⟩ := h
  replace hu : N = N1 := hu.symm
  subst hu
  refine lv_aload_n hx hb dL_law_609 rfl (lv_at hl 2 rfl) ?_
  refine lv_aload_n hx hb dL_law_610 rfl (lv_at hl 0 rfl) ?_
  refine lv_iload_n hx hb dL_law_611 rfl (lv_at hl 3 rfl) ?_
  refine lv_iconst (v := (1 : Int32)) hx hb dL_law_612 (by decide) ?_
  refine lv_iadd hx hb dL_law_613 ?_
  refine va_sld hx hb hX hbl hbA hw.2.2 hi1 dL_law_614 ?_
  refine lv_aload_n hx hb dL_law_615 rfl (lv_at hl 0 rfl) ?_
  refine lv_iload_n hx hb dL_law_616 rfl (lv_at hl 3 rfl) ?_
  refine lv_iconst (v := (2 : Int32)) hx hb dL_law_617 (by decide) ?_
  refine lv_iadd hx hb dL_law_618 ?_
  refine va_sld hx hb hX hbl hbA hw.2.2 hi2 dL_law_619 ?_
  refine lv_aload_n hx hb dL_law_620 rfl (lv_at hl 0 rfl) ?_
  refine lv_iload_n hx hb dL_law_621 rfl (lv_at hl 3 rfl) ?_
  refine lv_iconst (v := (3 : Int32)) hx hb dL_law_622 (by decide) ?_
  refine lv_iadd hx hb dL_law_623 ?_
  refine va_sld hx hb hX hbl hbA hw.2.2 hi3 dL_law_624 ?_
  refine lcalli (w1 := (fun u9 => wC g q (C1, N) ++ wM g q6 u9)) (va_runV (As := [.int (xs ((nI i) + (1 : Int32)).toNatClampNeg), .int (xs ((nI i) + (2 : Int32)).toNatClampNeg), .int (xs ((nI i) + (3 : Int32)).toNatClampNeg)]) (rest := [.int r1]) hC (kX6_best l g q6 H.size S J (xs ((nI i) + (1 : Int32)).toNatClampNeg) (xs ((nI i) + (2 : Int32)).toNatClampNeg) (xs ((nI i) + (3 : Int32)).toNatClampNeg) _ h) (cwV 3 hts gL_law_X6_best rfl rfl rfl (by decide +kernel) ⟨Nat.le_of_ble_eq_true rfl, Nat.le_of_ble_eq_true rfl⟩) (mpreV E0_ok hK trivial hA hw sLM1 0 rfl rfl) rfl rfl hl.1 rfl (lv_room (Nat.le_of_ble_eq_true rfl)) dL_law_625 ⟨Nat.le_of_ble_eq_true rfl, Nat.le_of_ble_eq_true rfl⟩) hA hw sLM1 (fun u9 => sLM u9) (fun r3 u4 H locs h hw => ?_)
  obtain ⟨S1, J1⟩ := u4
  obtain ⟨hu, h⟩ := h
  replace hu : J = J1 := hu.symm
  subst hu
  refine lv_icmp_eq (tgt := 1442) hx hb dL_law_628 (by decide) (fun c => ?_) (fun c => absurd h.1 c)
  exact kk C1 N S1 J _ _ h.2 hw
set_option maxRecDepth 100000 in
set_option maxHeartbeats 4000000 in
theorem law_many {p : Program} {l : Launch} {e : Env} {s : State} {m : MethodId} {args : Array Value} {below : List Frame} {meth : Method} {c : Code} {A : Nat → Prop} {Q : State → Prop} {g : Gl} {aK aV : Nat → Nat} {q : Nat → Nat → Nat} {q6 : Nat → Nat} {b L i : Nat} {xs : Nat → Int32} {Inv : (Nat → Bun) → (Nat → Lon) → Bun → Lon → Prop} {C : Nat → Bun} {N : Nat → Lon} {S : Bun} {J : Lon} {H : Heap} {locs : List Loc} {ls : Array Slot} (hC : CallFix p m c cL_law 4 s args wsL_law RL) (hA : ∀ q : Nat, s.heap.size ≤ q → A q) (hK : va_K g.1 vwCl (tysG g.2) s) (hE : E5 aK aV A s) (hX : va_X b L xs s s.heap) (hbl : b < s.heap.size) (hbA : ¬ A b) (hi : i + 7 ≤ L) (hL : L ≤ 448) (ho : lo_many Inv) (hI : Inv C N S J) (hw : Wd g.1 A s.heap (wC g q (C, N) ++ wM g q6 (S, J)) H locs) (hl : lv_has ls 4 [(0, .ref b), (1, .ref (q 0 0)), (2, .ref (q6 0)), (3, .int (nI i))]) (kk : ∀ (C : Nat → Bun) (N : Nat → Lon) (S : Bun) (J : Lon) (H : Heap) (locs : List Loc), Inv C N S J → Wd g.1 A s.heap (wC g q (C, N) ++ wM g q6 (S, J)) H locs → W p l e room_1 s m args below meth c H locs 244 4135 Q (F0 m 1442 ls [])) : W p l e room_1 s m args below meth c H locs 244 4135 Q (F0 m 633 ls []) := by
  obtain ⟨hx, hb, -, hown, hts⟩ := id hC
  have hi1 : vp_in (nI i + (1 : Int32)) L := by rw [show (nI i + (1 : Int32)) = nI (i + 1) from nI_add i 1]; exact vp_in_nI (by omega) (by omega)
  have hi2 : vp_in (nI i + (2 : Int32)) L := by rw [show (nI i + (2 : Int32)) = nI (i + 2) from nI_add i 2]; exact vp_in_nI (by omega) (by omega)
  have hi3 : vp_in (nI i + (3 : Int32)) L := by rw [show (nI i + (3 : Int32)) = nI (i + 3) from nI_add i 3]; exact vp_in_nI (by omega) (by omega)
  have hi4 : vp_in (nI i + (4 : Int32)) L := by rw [show (nI i + (4 : Int32)) = nI (i + 4) from nI_add i 4]; exact vp_in_nI (by omega) (by omega)
  have hi5 : vp_in (nI i + (5 : Int32)) L := by rw [show (nI i + (5 : Int32)) = nI (i + 5) from nI_add i 5]; exact vp_in_nI (by omega) (by omega)
  have hi6 : vp_in (nI i + (6 : Int32)) L := by rw [show (nI i + (6 : Int32)) = nI (i + 6) from nI_add i 6]; exact vp_in_nI (by omega) (by omega)
  refine lv_aload_n hx hb dL_law_633 rfl (lv_at hl 1 rfl) ?_
  refine lv_aload_n hx hb dL_law_634 rfl (lv_at hl 0 rfl) ?_
  refine lv_iload_n hx hb dL_law_635 rfl (lv_at hl 3 rfl) ?_
  refine lv_iconst (v := (1 : Int32)) hx hb dL_law_636 (by decide) ?_
  refine lv_iadd hx hb dL_law_637 ?_
  refine va_sld hx hb hX hbl hbA hw.2.2 hi1 dL_law_638 ?_
  refine lv_aload_n hx hb dL_law_639 rfl (lv_at hl 0 rfl) ?_
  refine lv_iload_n hx hb dL_law_640 rfl (lv_at hl 3 rfl) ?_
  refine lv_iconst (v := (2 : Int32)) hx hb dL_law_641 (by decide) ?_
  refine lv_iadd hx hb dL_law_642 ?_
  refine va_sld hx hb hX hbl hbA hw.2.2 hi2 dL_law_643 ?_
  have h := ho C N S J (xs ((nI i) + (1 : Int32)).toNatClampNeg) (xs ((nI i) + (2 : Int32)).toNatClampNeg) hI
  refine lcalli (w1 := (fun u9 => wC g q u9 ++ wM g q6 (S, J))) (va_runV (As := [.int (xs ((nI i) + (1 : Int32)).toNatClampNeg), .int (xs ((nI i) + (2 : Int32)).toNatClampNeg)]) (rest := []) hC (kX5_many l g aK aV q H.size C N (xs ((nI i) + (1 : Int32)).toNatClampNeg) (xs ((nI i) + (2 : Int32)).toNatClampNeg) _ h) (cwV 2 hts gL_law_X5_many rfl rfl rfl (by decide +kernel) ⟨Nat.le_of_ble_eq_true rfl, Nat.le_of_ble_eq_true rfl⟩) (mpreV (E5_ok aK aV) hK hE hA hw sLC1 0 rfl rfl) rfl rfl hl.1 rfl (lv_room (Nat.le_of_ble_eq_true rfl)) dL_law_644 ⟨Nat.le_of_ble_eq_true rfl, Nat.le_of_ble_eq_true rfl⟩) hA hw sLC1 (fun u9 => sLC u9) (fun r1 u2 H locs h hw => ?_)
  obtain ⟨C1, N1⟩ := u2
  obtain ⟨hu, h⟩ := h
  replace hu : N = N1 := hu.symm
  subst hu
  refine lv_aload_n hx hb dL_law_647 rfl (lv_at hl 2 rfl) ?_
  refine lv_aload_n hx hb dL_law_648 rfl (lv_at hl 0 rfl) ?_
  refine lv_iload_n hx hb dL_law_649 rfl (lv_at hl 3 rfl) ?_
  refine lv_iconst (v := (1 : Int32)) hx hb dL_law_650 (by decide) ?_
  refine lv_iadd hx hb dL_law_651 ?_
  refine va_sld hx hb hX hbl hbA hw.2.2 hi1 dL_law_652 ?_
  refine lv_aload_n hx hb dL_law_653 rfl (lv_at hl 0 rfl) ?_
  refine lv_iload_n hx hb dL_law_654 rfl (lv_at hl 3 rfl) ?_
  refine lv_iconst (v := (2 : Int32)) hx hb dL_law_655 (by decide) ?_
  refine lv_iadd hx hb dL_law_656 ?_
  refine va_sld hx hb hX hbl hbA hw.2.2 hi2 dL_law_657 ?_
  refine lcalli (w1 := (fun u9 => wC g q (C1, N) ++ wM g q6 u9)) (va_runV (As := [.int (xs ((nI i) + (1 : Int32)).toNatClampNeg), .int (xs ((nI i) + (2 : Int32)).toNatClampNeg)]) (rest := [.int r1]) hC (kX6_many l g q6 H.size S J (xs ((nI i) + (1 : Int32)).toNatClampNeg) (xs ((nI i) + (2 : Int32)).toNatClampNeg) _ h) (cwV 2 hts gL_law_X6_many rfl rfl rfl (by decide +kernel) ⟨Nat.le_of_ble_eq_true rfl, Nat.le_of_ble_eq_true rfl⟩) (mpreV E0_ok hK trivial hA hw sLM1 0 rfl rfl) rfl rfl hl.1 rfl (lv_room (Nat.le_of_ble_eq_true rfl)) dL_law_658 ⟨Nat.le_of_ble_eq_true rfl, Nat.le_of_ble_eq_true rfl⟩) hA hw sLM1 (fun u9 => sLM u9) (fun r3 u4 H locs h hw => ?_)
  obtain ⟨S1, J1⟩ := u4
  obtain ⟨hu, h⟩ := h
  replace hu : J = J1 := hu.symm
  subst hu
  refine lv_icmp_eq (tgt := 1442) hx hb dL_law_661 (by decide) (fun c => ?_) (fun c => absurd h.1 c)
  exact kk C1 N S1 J _ _ h.2 hw
set_option maxRecDepth 100000 in
set_option maxHeartbeats 4000000 in
theorem law_barred {p : Program} {l : Launch} {e : Env} {s : State} {m : MethodId} {args : Array Value} {below : List Frame} {meth : Method} {c : Code} {A : Nat → Prop} {Q : State → Prop} {g : Gl} {aK aV : Nat → Nat} {q : Nat → Nat → Nat} {q6 : Nat → Nat} {b L i : Nat} {xs : Nat → Int32} {Inv : (Nat → Bun) → (Nat → Lon) → Bun → Lon → Prop} {C : Nat → Bun} {N : Nat → Lon} {S : Bun} {J : Lon} {H : Heap} {locs : List Loc} {ls : Array Slot} (hC : CallFix p m c cL_law 4 s args wsL_law RL) (hA : ∀ q : Nat, s.heap.size ≤ q → A q) (hK : va_K g.1 vwCl (tysG g.2) s) (hE : E5 aK aV A s) (hX : va_X b L xs s s.heap) (hbl : b < s.heap.size) (hbA : ¬ A b) (hi : i + 7 ≤ L) (hL : L ≤ 448) (ho : lo_barred Inv) (hI : Inv C N S J) (hw : Wd g.1 A s.heap (wC g q (C, N) ++ wM g q6 (S, J)) H locs) (hl : lv_has ls 4 [(0, .ref b), (1, .ref (q 0 0)), (2, .ref (q6 0)), (3, .int (nI i))]) (kk : ∀ (C : Nat → Bun) (N : Nat → Lon) (S : Bun) (J : Lon) (H : Heap) (locs : List Loc), Inv C N S J → Wd g.1 A s.heap (wC g q (C, N) ++ wM g q6 (S, J)) H locs → W p l e room_1 s m args below meth c H locs 244 4135 Q (F0 m 1442 ls [])) : W p l e room_1 s m args below meth c H locs 244 4135 Q (F0 m 666 ls []) := by
  obtain ⟨hx, hb, -, hown, hts⟩ := id hC
  have hi1 : vp_in (nI i + (1 : Int32)) L := by rw [show (nI i + (1 : Int32)) = nI (i + 1) from nI_add i 1]; exact vp_in_nI (by omega) (by omega)
  have hi2 : vp_in (nI i + (2 : Int32)) L := by rw [show (nI i + (2 : Int32)) = nI (i + 2) from nI_add i 2]; exact vp_in_nI (by omega) (by omega)
  have hi3 : vp_in (nI i + (3 : Int32)) L := by rw [show (nI i + (3 : Int32)) = nI (i + 3) from nI_add i 3]; exact vp_in_nI (by omega) (by omega)
  have hi4 : vp_in (nI i + (4 : Int32)) L := by rw [show (nI i + (4 : Int32)) = nI (i + 4) from nI_add i 4]; exact vp_in_nI (by omega) (by omega)
  have hi5 : vp_in (nI i + (5 : Int32)) L := by rw [show (nI i + (5 : Int32)) = nI (i + 5) from nI_add i 5]; exact vp_in_nI (by omega) (by omega)
  have hi6 : vp_in (nI i + (6 : Int32)) L := by rw [show (nI i + (6 : Int32)) = nI (i + 6) from nI_add i 6]; exact vp_in_nI (by omega) (by omega)
  refine lv_aload_n hx hb dL_law_666 rfl (lv_at hl 1 rfl) ?_
  refine lv_aload_n hx hb dL_law_667 rfl (lv_at hl 0 rfl) ?_
  refine lv_iload_n hx hb dL_law_668 rfl (lv_at hl 3 rfl) ?_
  refine lv_iconst (v := (1 : Int32)) hx hb dL_law_669 (by decide) ?_
  refine lv_iadd hx hb dL_law_670 ?_
  refine va_sld hx hb hX hbl hbA hw.2.2 hi1 dL_law_671 ?_
  have h := ho C N S J (xs ((nI i) + (1 : Int32)).toNatClampNeg) hI
  refine lcalli (w1 := (fun u9 => wC g q u9 ++ wM g q6 (S, J))) (va_runV (As := [.int (xs ((nI i) + (1 : Int32)).toNatClampNeg)]) (rest := []) hC (kX5_barred l g aK aV q H.size C N (xs ((nI i) + (1 : Int32)).toNatClampNeg) _ h) (cwV 1 hts gL_law_X5_barred rfl rfl rfl (by decide +kernel) ⟨Nat.le_of_ble_eq_true rfl, Nat.le_of_ble_eq_true rfl⟩) (mpreV (E5_ok aK aV) hK hE hA hw sLC1 0 rfl rfl) rfl rfl hl.1 rfl (lv_room (Nat.le_of_ble_eq_true rfl)) dL_law_672 ⟨Nat.le_of_ble_eq_true rfl, Nat.le_of_ble_eq_true rfl⟩) hA hw sLC1 (fun u9 => sLC u9) (fun r1 u2 H locs h hw => ?_)
  obtain ⟨C1, N1⟩ := u2
  obtain ⟨hu, h⟩ := h
  replace hu : N = N1 := hu.symm
  subst hu
  refine lv_aload_n hx hb dL_law_675 rfl (lv_at hl 2 rfl) ?_
  refine lv_aload_n hx hb dL_law_676 rfl (lv_at hl 0 rfl) ?_
  refine lv_iload_n hx hb dL_law_677 rfl (lv_at hl 3 rfl) ?_
  refine lv_iconst (v := (1 : Int32)) hx hb dL_law_678 (by decide) ?_
  refine lv_iadd hx hb dL_law_679 ?_
  refine va_sld hx hb hX hbl hbA hw.2.2 hi1 dL_law_680 ?_
  refine lcalli (w1 := (fun u9 => wC g q (C1, N) ++ wM g q6 u9)) (va_runV (As := [.int (xs ((nI i) + (1 : Int32)).toNatClampNeg)]) (rest := [.int r1]) hC (kX6_barred l g q6 H.size S J (xs ((nI i) + (1 : Int32)).toNatClampNeg) _ h) (cwV 1 hts gL_law_X6_barred rfl rfl rfl (by decide +kernel) ⟨Nat.le_of_ble_eq_true rfl, Nat.le_of_ble_eq_true rfl⟩) (mpreV E0_ok hK trivial hA hw sLM1 0 rfl rfl) rfl rfl hl.1 rfl (lv_room (Nat.le_of_ble_eq_true rfl)) dL_law_681 ⟨Nat.le_of_ble_eq_true rfl, Nat.le_of_ble_eq_true rfl⟩) hA hw sLM1 (fun u9 => sLM u9) (fun r3 u4 H locs h hw => ?_)
  obtain ⟨S1, J1⟩ := u4
  obtain ⟨hu, h⟩ := h
  replace hu : J = J1 := hu.symm
  subst hu
  refine lv_icmp_eq (tgt := 1442) hx hb dL_law_684 (by decide) (fun c => ?_) (fun c => absurd h.1 c)
  exact kk C1 N S1 J _ _ h.2 hw
set_option maxRecDepth 100000 in
set_option maxHeartbeats 4000000 in
theorem law_missed {p : Program} {l : Launch} {e : Env} {s : State} {m : MethodId} {args : Array Value} {below : List Frame} {meth : Method} {c : Code} {A : Nat → Prop} {Q : State → Prop} {g : Gl} {aK aV : Nat → Nat} {q : Nat → Nat → Nat} {q6 : Nat → Nat} {b L i : Nat} {xs : Nat → Int32} {Inv : (Nat → Bun) → (Nat → Lon) → Bun → Lon → Prop} {C : Nat → Bun} {N : Nat → Lon} {S : Bun} {J : Lon} {H : Heap} {locs : List Loc} {ls : Array Slot} (hC : CallFix p m c cL_law 4 s args wsL_law RL) (hA : ∀ q : Nat, s.heap.size ≤ q → A q) (hK : va_K g.1 vwCl (tysG g.2) s) (hE : E5 aK aV A s) (hX : va_X b L xs s s.heap) (hbl : b < s.heap.size) (hbA : ¬ A b) (hi : i + 7 ≤ L) (hL : L ≤ 448) (ho : lo_missed Inv) (hI : Inv C N S J) (hw : Wd g.1 A s.heap (wC g q (C, N) ++ wM g q6 (S, J)) H locs) (hl : lv_has ls 4 [(0, .ref b), (1, .ref (q 0 0)), (2, .ref (q6 0)), (3, .int (nI i))]) (kk : ∀ (C : Nat → Bun) (N : Nat → Lon) (S : Bun) (J : Lon) (H : Heap) (locs : List Loc), Inv C N S J → Wd g.1 A s.heap (wC g q (C, N) ++ wM g q6 (S, J)) H locs → W p l e room_1 s m args below meth c H locs 244 4135 Q (F0 m 1442 ls [])) : W p l e room_1 s m args below meth c H locs 244 4135 Q (F0 m 689 ls []) := by
  obtain ⟨hx, hb, -, hown, hts⟩ := id hC
  have hi1 : vp_in (nI i + (1 : Int32)) L := by rw [show (nI i + (1 : Int32)) = nI (i + 1) from nI_add i 1]; exact vp_in_nI (by omega) (by omega)
  have hi2 : vp_in (nI i + (2 : Int32)) L := by rw [show (nI i + (2 : Int32)) = nI (i + 2) from nI_add i 2]; exact vp_in_nI (by omega) (by omega)
  have hi3 : vp_in (nI i + (3 : Int32)) L := by rw [show (nI i + (3 : Int32)) = nI (i + 3) from nI_add i 3]; exact vp_in_nI (by omega) (by omega)
  have hi4 : vp_in (nI i + (4 : Int32)) L := by rw [show (nI i + (4 : Int32)) = nI (i + 4) from nI_add i 4]; exact vp_in_nI (by omega) (by omega)
  have hi5 : vp_in (nI i + (5 : Int32)) L := by rw [show (nI i + (5 : Int32)) = nI (i + 5) from nI_add i 5]; exact vp_in_nI (by omega) (by omega)
  have hi6 : vp_in (nI i + (6 : Int32)) L := by rw [show (nI i + (6 : Int32)) = nI (i + 6) from nI_add i 6]; exact vp_in_nI (by omega) (by omega)
  refine lv_aload_n hx hb dL_law_689 rfl (lv_at hl 1 rfl) ?_
  refine lv_aload_n hx hb dL_law_690 rfl (lv_at hl 0 rfl) ?_
  refine lv_iload_n hx hb dL_law_691 rfl (lv_at hl 3 rfl) ?_
  refine lv_iconst (v := (1 : Int32)) hx hb dL_law_692 (by decide) ?_
  refine lv_iadd hx hb dL_law_693 ?_
  refine va_sld hx hb hX hbl hbA hw.2.2 hi1 dL_law_694 ?_
  refine lv_aload_n hx hb dL_law_695 rfl (lv_at hl 0 rfl) ?_
  refine lv_iload_n hx hb dL_law_696 rfl (lv_at hl 3 rfl) ?_
  refine lv_iconst (v := (2 : Int32)) hx hb dL_law_697 (by decide) ?_
  refine lv_iadd hx hb dL_law_698 ?_
  refine va_sld hx hb hX hbl hbA hw.2.2 hi2 dL_law_699 ?_
  have h := ho C N S J (xs ((nI i) + (1 : Int32)).toNatClampNeg) (xs ((nI i) + (2 : Int32)).toNatClampNeg) hI
  refine lcalli (w1 := (fun u9 => wC g q u9 ++ wM g q6 (S, J))) (va_runV (As := [.int (xs ((nI i) + (1 : Int32)).toNatClampNeg), .int (xs ((nI i) + (2 : Int32)).toNatClampNeg)]) (rest := []) hC (kX5_missed l g aK aV q H.size C N (xs ((nI i) + (1 : Int32)).toNatClampNeg) (xs ((nI i) + (2 : Int32)).toNatClampNeg) _ h) (cwV 2 hts gL_law_X5_missed rfl rfl rfl (by decide +kernel) ⟨Nat.le_of_ble_eq_true rfl, Nat.le_of_ble_eq_true rfl⟩) (mpreV (E5_ok aK aV) hK hE hA hw sLC1 0 rfl rfl) rfl rfl hl.1 rfl (lv_room (Nat.le_of_ble_eq_true rfl)) dL_law_700 ⟨Nat.le_of_ble_eq_true rfl, Nat.le_of_ble_eq_true rfl⟩) hA hw sLC1 (fun u9 => sLC u9) (fun r1 u2 H locs h hw => ?_)
  obtain ⟨C1, N1⟩ := u2
  obtain ⟨hu, h⟩ := h
  replace hu : N = N1 := hu.symm
  subst hu
  refine lv_aload_n hx hb dL_law_703 rfl (lv_at hl 2 rfl) ?_
  refine lv_aload_n hx hb dL_law_704 rfl (lv_at hl 0 rfl) ?_
  refine lv_iload_n hx hb dL_law_705 rfl (lv_at hl 3 rfl) ?_
  refine lv_iconst (v := (1 : Int32)) hx hb dL_law_706 (by decide) ?_
  refine lv_iadd hx hb dL_law_707 ?_
  refine va_sld hx hb hX hbl hbA hw.2.2 hi1 dL_law_708 ?_
  refine lv_aload_n hx hb dL_law_709 rfl (lv_at hl 0 rfl) ?_
  refine lv_iload_n hx hb dL_law_710 rfl (lv_at hl 3 rfl) ?_
  refine lv_iconst (v := (2 : Int32)) hx hb dL_law_711 (by decide) ?_
  refine lv_iadd hx hb dL_law_712 ?_
  refine va_sld hx hb hX hbl hbA hw.2.2 hi2 dL_law_713 ?_
  refine lcalli (w1 := (fun u9 => wC g q (C1, N) ++ wM g q6 u9)) (va_runV (As := [.int (xs ((nI i) + (1 : Int32)).toNatClampNeg), .int (xs ((nI i) + (2 : Int32)).toNatClampNeg)]) (rest := [.int r1]) hC (kX6_missed l g q6 H.size S J (xs ((nI i) + (1 : Int32)).toNatClampNeg) (xs ((nI i) + (2 : Int32)).toNatClampNeg) _ h) (cwV 2 hts gL_law_X6_missed rfl rfl rfl (by decide +kernel) ⟨Nat.le_of_ble_eq_true rfl, Nat.le_of_ble_eq_true rfl⟩) (mpreV E0_ok hK trivial hA hw sLM1 0 rfl rfl) rfl rfl hl.1 rfl (lv_room (Nat.le_of_ble_eq_true rfl)) dL_law_714 ⟨Nat.le_of_ble_eq_true rfl, Nat.le_of_ble_eq_true rfl⟩) hA hw sLM1 (fun u9 => sLM u9) (fun r3 u4 H locs h hw => ?_)
  obtain ⟨S1, J1⟩ := u4
  obtain ⟨hu, h⟩ := h
  replace hu : J = J1 := hu.symm
  subst hu
  refine lv_icmp_eq (tgt := 1442) hx hb dL_law_717 (by decide) (fun c => ?_) (fun c => absurd h.1 c)
  exact kk C1 N S1 J _ _ h.2 hw
set_option maxRecDepth 100000 in
set_option maxHeartbeats 4000000 in
theorem law_stone {p : Program} {l : Launch} {e : Env} {s : State} {m : MethodId} {args : Array Value} {below : List Frame} {meth : Method} {c : Code} {A : Nat → Prop} {Q : State → Prop} {g : Gl} {aK aV : Nat → Nat} {q : Nat → Nat → Nat} {q6 : Nat → Nat} {b L i : Nat} {xs : Nat → Int32} {Inv : (Nat → Bun) → (Nat → Lon) → Bun → Lon → Prop} {C : Nat → Bun} {N : Nat → Lon} {S : Bun} {J : Lon} {H : Heap} {locs : List Loc} {ls : Array Slot} (hC : CallFix p m c cL_law 4 s args wsL_law RL) (hA : ∀ q : Nat, s.heap.size ≤ q → A q) (hK : va_K g.1 vwCl (tysG g.2) s) (hE : E5 aK aV A s) (hX : va_X b L xs s s.heap) (hbl : b < s.heap.size) (hbA : ¬ A b) (hi : i + 7 ≤ L) (hL : L ≤ 448) (ho : lo_stone Inv) (hI : Inv C N S J) (hw : Wd g.1 A s.heap (wC g q (C, N) ++ wM g q6 (S, J)) H locs) (hl : lv_has ls 4 [(0, .ref b), (1, .ref (q 0 0)), (2, .ref (q6 0)), (3, .int (nI i))]) (kk : ∀ (C : Nat → Bun) (N : Nat → Lon) (S : Bun) (J : Lon) (H : Heap) (locs : List Loc), Inv C N S J → Wd g.1 A s.heap (wC g q (C, N) ++ wM g q6 (S, J)) H locs → W p l e room_1 s m args below meth c H locs 244 4135 Q (F0 m 1442 ls [])) : W p l e room_1 s m args below meth c H locs 244 4135 Q (F0 m 722 ls []) := by
  obtain ⟨hx, hb, -, hown, hts⟩ := id hC
  have hi1 : vp_in (nI i + (1 : Int32)) L := by rw [show (nI i + (1 : Int32)) = nI (i + 1) from nI_add i 1]; exact vp_in_nI (by omega) (by omega)
  have hi2 : vp_in (nI i + (2 : Int32)) L := by rw [show (nI i + (2 : Int32)) = nI (i + 2) from nI_add i 2]; exact vp_in_nI (by omega) (by omega)
  have hi3 : vp_in (nI i + (3 : Int32)) L := by rw [show (nI i + (3 : Int32)) = nI (i + 3) from nI_add i 3]; exact vp_in_nI (by omega) (by omega)
  have hi4 : vp_in (nI i + (4 : Int32)) L := by rw [show (nI i + (4 : Int32)) = nI (i + 4) from nI_add i 4]; exact vp_in_nI (by omega) (by omega)
  have hi5 : vp_in (nI i + (5 : Int32)) L := by rw [show (nI i + (5 : Int32)) = nI (i + 5) from nI_add i 5]; exact vp_in_nI (by omega) (by omega)
  have hi6 : vp_in (nI i + (6 : Int32)) L := by rw [show (nI i + (6 : Int32)) = nI (i + 6) from nI_add i 6]; exact vp_in_nI (by omega) (by omega)
  refine lv_aload_n hx hb dL_law_722 rfl (lv_at hl 1 rfl) ?_
  refine lv_aload_n hx hb dL_law_723 rfl (lv_at hl 0 rfl) ?_
  refine lv_iload_n hx hb dL_law_724 rfl (lv_at hl 3 rfl) ?_
  refine lv_iconst (v := (1 : Int32)) hx hb dL_law_725 (by decide) ?_
  refine lv_iadd hx hb dL_law_726 ?_
  refine va_sld hx hb hX hbl hbA hw.2.2 hi1 dL_law_727 ?_
  refine lv_aload_n hx hb dL_law_728 rfl (lv_at hl 0 rfl) ?_
  refine lv_iload_n hx hb dL_law_729 rfl (lv_at hl 3 rfl) ?_
  refine lv_iconst (v := (2 : Int32)) hx hb dL_law_730 (by decide) ?_
  refine lv_iadd hx hb dL_law_731 ?_
  refine va_sld hx hb hX hbl hbA hw.2.2 hi2 dL_law_732 ?_
  have h := ho C N S J (xs ((nI i) + (1 : Int32)).toNatClampNeg) (xs ((nI i) + (2 : Int32)).toNatClampNeg) hI
  refine lcalli (w1 := (fun u9 => wC g q u9 ++ wM g q6 (S, J))) (va_runV (As := [.int (xs ((nI i) + (1 : Int32)).toNatClampNeg), .int (xs ((nI i) + (2 : Int32)).toNatClampNeg)]) (rest := []) hC (kX5_stone l g aK aV q H.size C N (xs ((nI i) + (1 : Int32)).toNatClampNeg) (xs ((nI i) + (2 : Int32)).toNatClampNeg) _ h) (cwV 2 hts gL_law_X5_stone rfl rfl rfl (by decide +kernel) ⟨Nat.le_of_ble_eq_true rfl, Nat.le_of_ble_eq_true rfl⟩) (mpreV (E5_ok aK aV) hK hE hA hw sLC1 0 rfl rfl) rfl rfl hl.1 rfl (lv_room (Nat.le_of_ble_eq_true rfl)) dL_law_733 ⟨Nat.le_of_ble_eq_true rfl, Nat.le_of_ble_eq_true rfl⟩) hA hw sLC1 (fun u9 => sLC u9) (fun r1 u2 H locs h hw => ?_)
  obtain ⟨C1, N1⟩ := u2
  obtain ⟨hu, h⟩ := h
  replace hu : N = N1 := hu.symm
  subst hu
  refine lv_aload_n hx hb dL_law_736 rfl (lv_at hl 2 rfl) ?_
  refine lv_aload_n hx hb dL_law_737 rfl (lv_at hl 0 rfl) ?_
  refine lv_iload_n hx hb dL_law_738 rfl (lv_at hl 3 rfl) ?_
  refine lv_iconst (v := (1 : Int32)) hx hb dL_law_739 (by decide) ?_
  refine lv_iadd hx hb dL_law_740 ?_
  refine va_sld hx hb hX hbl hbA hw.2.2 hi1 dL_law_741 ?_
  refine lv_aload_n hx hb dL_law_742 rfl (lv_at hl 0 rfl) ?_
  refine lv_iload_n hx hb dL_law_743 rfl (lv_at hl 3 rfl) ?_
  refine lv_iconst (v := (2 : Int32)) hx hb dL_law_744 (by decide) ?_
  refine lv_iadd hx hb dL_law_745 ?_
  refine va_sld hx hb hX hbl hbA hw.2.2 hi2 dL_law_746 ?_
  refine lcalli (w1 := (fun u9 => wC g q (C1, N) ++ wM g q6 u9)) (va_runV (As := [.int (xs ((nI i) + (1 : Int32)).toNatClampNeg), .int (xs ((nI i) + (2 : Int32)).toNatClampNeg)]) (rest := [.int r1]) hC (kX6_stone l g q6 H.size S J (xs ((nI i) + (1 : Int32)).toNatClampNeg) (xs ((nI i) + (2 : Int32)).toNatClampNeg) _ h) (cwV 2 hts gL_law_X6_stone rfl rfl rfl (by decide +kernel) ⟨Nat.le_of_ble_eq_true rfl, Nat.le_of_ble_eq_true rfl⟩) (mpreV E0_ok hK trivial hA hw sLM1 0 rfl rfl) rfl rfl hl.1 rfl (lv_room (Nat.le_of_ble_eq_true rfl)) dL_law_747 ⟨Nat.le_of_ble_eq_true rfl, Nat.le_of_ble_eq_true rfl⟩) hA hw sLM1 (fun u9 => sLM u9) (fun r3 u4 H locs h hw => ?_)
  obtain ⟨S1, J1⟩ := u4
  obtain ⟨hu, h⟩ := h
  replace hu : J = J1 := hu.symm
  subst hu
  refine lv_icmp_eq (tgt := 1442) hx hb dL_law_750 (by decide) (fun c => ?_) (fun c => absurd h.1 c)
  exact kk C1 N S1 J _ _ h.2 hw
set_option maxRecDepth 100000 in
set_option maxHeartbeats 4000000 in
theorem law_gate {p : Program} {l : Launch} {e : Env} {s : State} {m : MethodId} {args : Array Value} {below : List Frame} {meth : Method} {c : Code} {A : Nat → Prop} {Q : State → Prop} {g : Gl} {aK aV : Nat → Nat} {q : Nat → Nat → Nat} {q6 : Nat → Nat} {b L i : Nat} {xs : Nat → Int32} {Inv : (Nat → Bun) → (Nat → Lon) → Bun → Lon → Prop} {C : Nat → Bun} {N : Nat → Lon} {S : Bun} {J : Lon} {H : Heap} {locs : List Loc} {ls : Array Slot} (hC : CallFix p m c cL_law 4 s args wsL_law RL) (hA : ∀ q : Nat, s.heap.size ≤ q → A q) (hK : va_K g.1 vwCl (tysG g.2) s) (hE : E5 aK aV A s) (hX : va_X b L xs s s.heap) (hbl : b < s.heap.size) (hbA : ¬ A b) (hi : i + 7 ≤ L) (hL : L ≤ 448) (ho : lo_gate Inv) (hI : Inv C N S J) (hw : Wd g.1 A s.heap (wC g q (C, N) ++ wM g q6 (S, J)) H locs) (hl : lv_has ls 4 [(0, .ref b), (1, .ref (q 0 0)), (2, .ref (q6 0)), (3, .int (nI i))]) (kk : ∀ (C : Nat → Bun) (N : Nat → Lon) (S : Bun) (J : Lon) (H : Heap) (locs : List Loc), Inv C N S J → Wd g.1 A s.heap (wC g q (C, N) ++ wM g q6 (S, J)) H locs → W p l e room_1 s m args below meth c H locs 244 4135 Q (F0 m 1442 ls [])) : W p l e room_1 s m args below meth c H locs 244 4135 Q (F0 m 755 ls []) := by
  obtain ⟨hx, hb, -, hown, hts⟩ := id hC
  have hi1 : vp_in (nI i + (1 : Int32)) L := by rw [show (nI i + (1 : Int32)) = nI (i + 1) from nI_add i 1]; exact vp_in_nI (by omega) (by omega)
  have hi2 : vp_in (nI i + (2 : Int32)) L := by rw [show (nI i + (2 : Int32)) = nI (i + 2) from nI_add i 2]; exact vp_in_nI (by omega) (by omega)
  have hi3 : vp_in (nI i + (3 : Int32)) L := by rw [show (nI i + (3 : Int32)) = nI (i + 3) from nI_add i 3]; exact vp_in_nI (by omega) (by omega)
  have hi4 : vp_in (nI i + (4 : Int32)) L := by rw [show (nI i + (4 : Int32)) = nI (i + 4) from nI_add i 4]; exact vp_in_nI (by omega) (by omega)
  have hi5 : vp_in (nI i + (5 : Int32)) L := by rw [show (nI i + (5 : Int32)) = nI (i + 5) from nI_add i 5]; exact vp_in_nI (by omega) (by omega)
  have hi6 : vp_in (nI i + (6 : Int32)) L := by rw [show (nI i + (6 : Int32)) = nI (i + 6) from nI_add i 6]; exact vp_in_nI (by omega) (by omega)
  refine lv_aload_n hx hb dL_law_755 rfl (lv_at hl 1 rfl) ?_
  refine lv_aload_n hx hb dL_law_756 rfl (lv_at hl 0 rfl) ?_
  refine lv_iload_n hx hb dL_law_757 rfl (lv_at hl 3 rfl) ?_
  refine lv_iconst (v := (1 : Int32)) hx hb dL_law_758 (by decide) ?_
  refine lv_iadd hx hb dL_law_759 ?_
  refine va_sld hx hb hX hbl hbA hw.2.2 hi1 dL_law_760 ?_
  refine lv_aload_n hx hb dL_law_761 rfl (lv_at hl 0 rfl) ?_
  refine lv_iload_n hx hb dL_law_762 rfl (lv_at hl 3 rfl) ?_
  refine lv_iconst (v := (2 : Int32)) hx hb dL_law_763 (by decide) ?_
  refine lv_iadd hx hb dL_law_764 ?_
  refine va_sld hx hb hX hbl hbA hw.2.2 hi2 dL_law_765 ?_
  refine lv_aload_n hx hb dL_law_766 rfl (lv_at hl 0 rfl) ?_
  refine lv_iload_n hx hb dL_law_767 rfl (lv_at hl 3 rfl) ?_
  refine lv_iconst (v := (3 : Int32)) hx hb dL_law_768 (by decide) ?_
  refine lv_iadd hx hb dL_law_769 ?_
  refine va_sld hx hb hX hbl hbA hw.2.2 hi3 dL_law_770 ?_
  have h := ho C N S J (xs ((nI i) + (1 : Int32)).toNatClampNeg) (xs ((nI i) + (2 : Int32)).toNatClampNeg) (xs ((nI i) + (3 : Int32)).toNatClampNeg) hI
  refine lcalli (w1 := (fun u9 => wC g q u9 ++ wM g q6 (S, J))) (va_runV (As := [.int (xs ((nI i) + (1 : Int32)).toNatClampNeg), .int (xs ((nI i) + (2 : Int32)).toNatClampNeg), .int (xs ((nI i) + (3 : Int32)).toNatClampNeg)]) (rest := []) hC (kX5_gate l g aK aV q H.size C N (xs ((nI i) + (1 : Int32)).toNatClampNeg) (xs ((nI i) + (2 : Int32)).toNatClampNeg) (xs ((nI i) + (3 : Int32)).toNatClampNeg) _ h) (cwV 3 hts gL_law_X5_gate rfl rfl rfl (by decide +kernel) ⟨Nat.le_of_ble_eq_true rfl, Nat.le_of_ble_eq_true rfl⟩) (mpreV (E5_ok aK aV) hK hE hA hw sLC1 0 rfl rfl) rfl rfl hl.1 rfl (lv_room (Nat.le_of_ble_eq_true rfl)) dL_law_771 ⟨Nat.le_of_ble_eq_true rfl, Nat.le_of_ble_eq_true rfl⟩) hA hw sLC1 (fun u9 => sLC u9) (fun r1 u2 H locs h hw => ?_)
  obtain ⟨C1, N1⟩ := u2
  obtain ⟨hu, h⟩ := h
  replace hu : N = N1 := hu.symm
  subst hu
  refine lv_aload_n hx hb dL_law_774 rfl (lv_at hl 2 rfl) ?_
  refine lv_aload_n hx hb dL_law_775 rfl (lv_at hl 0 rfl) ?_
  refine lv_iload_n hx hb dL_law_776 rfl (lv_at hl 3 rfl) ?_
  refine lv_iconst (v := (1 : Int32)) hx hb dL_law_777 (by decide) ?_
  refine lv_iadd hx hb dL_law_778 ?_
  refine va_sld hx hb hX hbl hbA hw.2.2 hi1 dL_law_779 ?_
  refine lv_aload_n hx hb dL_law_780 rfl (lv_at hl 0 rfl) ?_
  refine lv_iload_n hx hb dL_law_781 rfl (lv_at hl 3 rfl) ?_
  refine lv_iconst (v := (2 : Int32)) hx hb dL_law_782 (by decide) ?_
  refine lv_iadd hx hb dL_law_783 ?_
  refine va_sld hx hb hX hbl hbA hw.2.2 hi2 dL_law_784 ?_
  refine lv_aload_n hx hb dL_law_785 rfl (lv_at hl 0 rfl) ?_
  refine lv_iload_n hx hb dL_law_786 rfl (lv_at hl 3 rfl) ?_
  refine lv_iconst (v := (3 : Int32)) hx hb dL_law_787 (by decide) ?_
  refine lv_iadd hx hb dL_law_788 ?_
  refine va_sld hx hb hX hbl hbA hw.2.2 hi3 dL_law_789 ?_
  refine lcalli (w1 := (fun u9 => wC g q (C1, N) ++ wM g q6 u9)) (va_runV (As := [.int (xs ((nI i) + (1 : Int32)).toNatClampNeg), .int (xs ((nI i) + (2 : Int32)).toNatClampNeg), .int (xs ((nI i) + (3 : Int32)).toNatClampNeg)]) (rest := [.int r1]) hC (kX6_gate l g q6 H.size S J (xs ((nI i) + (1 : Int32)).toNatClampNeg) (xs ((nI i) + (2 : Int32)).toNatClampNeg) (xs ((nI i) + (3 : Int32)).toNatClampNeg) _ h) (cwV 3 hts gL_law_X6_gate rfl rfl rfl (by decide +kernel) ⟨Nat.le_of_ble_eq_true rfl, Nat.le_of_ble_eq_true rfl⟩) (mpreV E0_ok hK trivial hA hw sLM1 0 rfl rfl) rfl rfl hl.1 rfl (lv_room (Nat.le_of_ble_eq_true rfl)) dL_law_790 ⟨Nat.le_of_ble_eq_true rfl, Nat.le_of_ble_eq_true rfl⟩) hA hw sLM1 (fun u9 => sLM u9) (fun r3 u4 H locs h hw => ?_)
  obtain ⟨S1, J1⟩ := u4
  obtain ⟨hu, h⟩ := h
  replace hu : J = J1 := hu.symm
  subst hu
  refine lv_icmp_eq (tgt := 1442) hx hb dL_law_793 (by decide) (fun c => ?_) (fun c => absurd h.1 c)
  exact kk C1 N S1 J _ _ h.2 hw
set_option maxRecDepth 100000 in
set_option maxHeartbeats 4000000 in
theorem law_whose {p : Program} {l : Launch} {e : Env} {s : State} {m : MethodId} {args : Array Value} {below : List Frame} {meth : Method} {c : Code} {A : Nat → Prop} {Q : State → Prop} {g : Gl} {aK aV : Nat → Nat} {q : Nat → Nat → Nat} {q6 : Nat → Nat} {b L i : Nat} {xs : Nat → Int32} {Inv : (Nat → Bun) → (Nat → Lon) → Bun → Lon → Prop} {C : Nat → Bun} {N : Nat → Lon} {S : Bun} {J : Lon} {H : Heap} {locs : List Loc} {ls : Array Slot} (hC : CallFix p m c cL_law 4 s args wsL_law RL) (hA : ∀ q : Nat, s.heap.size ≤ q → A q) (hK : va_K g.1 vwCl (tysG g.2) s) (hE : E5 aK aV A s) (hX : va_X b L xs s s.heap) (hbl : b < s.heap.size) (hbA : ¬ A b) (hi : i + 7 ≤ L) (hL : L ≤ 448) (ho : lo_whose Inv) (hI : Inv C N S J) (hw : Wd g.1 A s.heap (wC g q (C, N) ++ wM g q6 (S, J)) H locs) (hl : lv_has ls 4 [(0, .ref b), (1, .ref (q 0 0)), (2, .ref (q6 0)), (3, .int (nI i))]) (kk : ∀ (C : Nat → Bun) (N : Nat → Lon) (S : Bun) (J : Lon) (H : Heap) (locs : List Loc), Inv C N S J → Wd g.1 A s.heap (wC g q (C, N) ++ wM g q6 (S, J)) H locs → W p l e room_1 s m args below meth c H locs 244 4135 Q (F0 m 1442 ls [])) : W p l e room_1 s m args below meth c H locs 244 4135 Q (F0 m 798 ls []) := by
  obtain ⟨hx, hb, -, hown, hts⟩ := id hC
  have hi1 : vp_in (nI i + (1 : Int32)) L := by rw [show (nI i + (1 : Int32)) = nI (i + 1) from nI_add i 1]; exact vp_in_nI (by omega) (by omega)
  have hi2 : vp_in (nI i + (2 : Int32)) L := by rw [show (nI i + (2 : Int32)) = nI (i + 2) from nI_add i 2]; exact vp_in_nI (by omega) (by omega)
  have hi3 : vp_in (nI i + (3 : Int32)) L := by rw [show (nI i + (3 : Int32)) = nI (i + 3) from nI_add i 3]; exact vp_in_nI (by omega) (by omega)
  have hi4 : vp_in (nI i + (4 : Int32)) L := by rw [show (nI i + (4 : Int32)) = nI (i + 4) from nI_add i 4]; exact vp_in_nI (by omega) (by omega)
  have hi5 : vp_in (nI i + (5 : Int32)) L := by rw [show (nI i + (5 : Int32)) = nI (i + 5) from nI_add i 5]; exact vp_in_nI (by omega) (by omega)
  have hi6 : vp_in (nI i + (6 : Int32)) L := by rw [show (nI i + (6 : Int32)) = nI (i + 6) from nI_add i 6]; exact vp_in_nI (by omega) (by omega)
  refine lv_aload_n hx hb dL_law_798 rfl (lv_at hl 1 rfl) ?_
  refine lv_aload_n hx hb dL_law_799 rfl (lv_at hl 0 rfl) ?_
  refine lv_iload_n hx hb dL_law_800 rfl (lv_at hl 3 rfl) ?_
  refine lv_iconst (v := (1 : Int32)) hx hb dL_law_801 (by decide) ?_
  refine lv_iadd hx hb dL_law_802 ?_
  refine va_sld hx hb hX hbl hbA hw.2.2 hi1 dL_law_803 ?_
  have h := ho C N S J (xs ((nI i) + (1 : Int32)).toNatClampNeg) hI
  refine lcalli (w1 := (fun u9 => wC g q u9 ++ wM g q6 (S, J))) (va_runV (As := [.int (xs ((nI i) + (1 : Int32)).toNatClampNeg)]) (rest := []) hC (kX5_whose l g aK aV q H.size C N (xs ((nI i) + (1 : Int32)).toNatClampNeg) _ h) (cwV 1 hts gL_law_X5_whose rfl rfl rfl (by decide +kernel) ⟨Nat.le_of_ble_eq_true rfl, Nat.le_of_ble_eq_true rfl⟩) (mpreV (E5_ok aK aV) hK hE hA hw sLC1 0 rfl rfl) rfl rfl hl.1 rfl (lv_room (Nat.le_of_ble_eq_true rfl)) dL_law_804 ⟨Nat.le_of_ble_eq_true rfl, Nat.le_of_ble_eq_true rfl⟩) hA hw sLC1 (fun u9 => sLC u9) (fun r1 u2 H locs h hw => ?_)
  obtain ⟨C1, N1⟩ := u2
  obtain ⟨hu, h⟩ := h
  replace hu : N = N1 := hu.symm
  subst hu
  refine lv_aload_n hx hb dL_law_807 rfl (lv_at hl 2 rfl) ?_
  refine lv_aload_n hx hb dL_law_808 rfl (lv_at hl 0 rfl) ?_
  refine lv_iload_n hx hb dL_law_809 rfl (lv_at hl 3 rfl) ?_
  refine lv_iconst (v := (1 : Int32)) hx hb dL_law_810 (by decide) ?_
  refine lv_iadd hx hb dL_law_811 ?_
  refine va_sld hx hb hX hbl hbA hw.2.2 hi1 dL_law_812 ?_
  refine lcalli (w1 := (fun u9 => wC g q (C1, N) ++ wM g q6 u9)) (va_runV (As := [.int (xs ((nI i) + (1 : Int32)).toNatClampNeg)]) (rest := [.int r1]) hC (kX6_whose l g q6 H.size S J (xs ((nI i) + (1 : Int32)).toNatClampNeg) _ h) (cwV 1 hts gL_law_X6_whose rfl rfl rfl (by decide +kernel) ⟨Nat.le_of_ble_eq_true rfl, Nat.le_of_ble_eq_true rfl⟩) (mpreV E0_ok hK trivial hA hw sLM1 0 rfl rfl) rfl rfl hl.1 rfl (lv_room (Nat.le_of_ble_eq_true rfl)) dL_law_813 ⟨Nat.le_of_ble_eq_true rfl, Nat.le_of_ble_eq_true rfl⟩) hA hw sLM1 (fun u9 => sLM u9) (fun r3 u4 H locs h hw => ?_)
  obtain ⟨S1, J1⟩ := u4
  obtain ⟨hu, h⟩ := h
  replace hu : J = J1 := hu.symm
  subst hu
  refine lv_icmp_eq (tgt := 1442) hx hb dL_law_816 (by decide) (fun c => ?_) (fun c => absurd h.1 c)
  exact kk C1 N S1 J _ _ h.2 hw
set_option maxRecDepth 100000 in
set_option maxHeartbeats 4000000 in
theorem law_lines {p : Program} {l : Launch} {e : Env} {s : State} {m : MethodId} {args : Array Value} {below : List Frame} {meth : Method} {c : Code} {A : Nat → Prop} {Q : State → Prop} {g : Gl} {aK aV : Nat → Nat} {q : Nat → Nat → Nat} {q6 : Nat → Nat} {b L i : Nat} {xs : Nat → Int32} {Inv : (Nat → Bun) → (Nat → Lon) → Bun → Lon → Prop} {C : Nat → Bun} {N : Nat → Lon} {S : Bun} {J : Lon} {H : Heap} {locs : List Loc} {ls : Array Slot} (hC : CallFix p m c cL_law 4 s args wsL_law RL) (hA : ∀ q : Nat, s.heap.size ≤ q → A q) (hK : va_K g.1 vwCl (tysG g.2) s) (hE : E5 aK aV A s) (hX : va_X b L xs s s.heap) (hbl : b < s.heap.size) (hbA : ¬ A b) (hi : i + 7 ≤ L) (hL : L ≤ 448) (ho : lo_lines Inv) (hI : Inv C N S J) (hw : Wd g.1 A s.heap (wC g q (C, N) ++ wM g q6 (S, J)) H locs) (hl : lv_has ls 4 [(0, .ref b), (1, .ref (q 0 0)), (2, .ref (q6 0)), (3, .int (nI i))]) (kk : ∀ (C : Nat → Bun) (N : Nat → Lon) (S : Bun) (J : Lon) (H : Heap) (locs : List Loc), Inv C N S J → Wd g.1 A s.heap (wC g q (C, N) ++ wM g q6 (S, J)) H locs → W p l e room_1 s m args below meth c H locs 244 4135 Q (F0 m 1442 ls [])) : W p l e room_1 s m args below meth c H locs 244 4135 Q (F0 m 821 ls []) := by
  obtain ⟨hx, hb, -, hown, hts⟩ := id hC
  have hi1 : vp_in (nI i + (1 : Int32)) L := by rw [show (nI i + (1 : Int32)) = nI (i + 1) from nI_add i 1]; exact vp_in_nI (by omega) (by omega)
  have hi2 : vp_in (nI i + (2 : Int32)) L := by rw [show (nI i + (2 : Int32)) = nI (i + 2) from nI_add i 2]; exact vp_in_nI (by omega) (by omega)
  have hi3 : vp_in (nI i + (3 : Int32)) L := by rw [show (nI i + (3 : Int32)) = nI (i + 3) from nI_add i 3]; exact vp_in_nI (by omega) (by omega)
  have hi4 : vp_in (nI i + (4 : Int32)) L := by rw [show (nI i + (4 : Int32)) = nI (i + 4) from nI_add i 4]; exact vp_in_nI (by omega) (by omega)
  have hi5 : vp_in (nI i + (5 : Int32)) L := by rw [show (nI i + (5 : Int32)) = nI (i + 5) from nI_add i 5]; exact vp_in_nI (by omega) (by omega)
  have hi6 : vp_in (nI i + (6 : Int32)) L := by rw [show (nI i + (6 : Int32)) = nI (i + 6) from nI_add i 6]; exact vp_in_nI (by omega) (by omega)
  refine lv_aload_n hx hb dL_law_821 rfl (lv_at hl 1 rfl) ?_
  refine lv_aload_n hx hb dL_law_822 rfl (lv_at hl 0 rfl) ?_
  refine lv_iload_n hx hb dL_law_823 rfl (lv_at hl 3 rfl) ?_
  refine lv_iconst (v := (1 : Int32)) hx hb dL_law_824 (by decide) ?_
  refine lv_iadd hx hb dL_law_825 ?_
  refine va_sld hx hb hX hbl hbA hw.2.2 hi1 dL_law_826 ?_
  have h := ho C N S J (xs ((nI i) + (1 : Int32)).toNatClampNeg) hI
  refine lcalli (w1 := (fun u9 => wC g q u9 ++ wM g q6 (S, J))) (va_runV (As := [.int (xs ((nI i) + (1 : Int32)).toNatClampNeg)]) (rest := []) hC (kX5_lines l g aK aV q H.size C N (xs ((nI i) + (1 : Int32)).toNatClampNeg) _ h) (cwV 1 hts gL_law_X5_lines rfl rfl rfl (by decide +kernel) ⟨Nat.le_of_ble_eq_true rfl, Nat.le_of_ble_eq_true rfl⟩) (mpreV (E5_ok aK aV) hK hE hA hw sLC1 0 rfl rfl) rfl rfl hl.1 rfl (lv_room (Nat.le_of_ble_eq_true rfl)) dL_law_827 ⟨Nat.le_of_ble_eq_true rfl, Nat.le_of_ble_eq_true rfl⟩) hA hw sLC1 (fun u9 => sLC u9) (fun r1 u2 H locs h hw => ?_)
  obtain ⟨C1, N1⟩ := u2
  obtain ⟨hu, h⟩ := h
  replace hu : N = N1 := hu.symm
  subst hu
  refine lv_aload_n hx hb dL_law_830 rfl (lv_at hl 2 rfl) ?_
  refine lv_aload_n hx hb dL_law_831 rfl (lv_at hl 0 rfl) ?_
  refine lv_iload_n hx hb dL_law_832 rfl (lv_at hl 3 rfl) ?_
  refine lv_iconst (v := (1 : Int32)) hx hb dL_law_833 (by decide) ?_
  refine lv_iadd hx hb dL_law_834 ?_
  refine va_sld hx hb hX hbl hbA hw.2.2 hi1 dL_law_835 ?_
  refine lcalli (w1 := (fun u9 => wC g q (C1, N) ++ wM g q6 u9)) (va_runV (As := [.int (xs ((nI i) + (1 : Int32)).toNatClampNeg)]) (rest := [.int r1]) hC (kX6_lines l g q6 H.size S J (xs ((nI i) + (1 : Int32)).toNatClampNeg) _ h) (cwV 1 hts gL_law_X6_lines rfl rfl rfl (by decide +kernel) ⟨Nat.le_of_ble_eq_true rfl, Nat.le_of_ble_eq_true rfl⟩) (mpreV E0_ok hK trivial hA hw sLM1 0 rfl rfl) rfl rfl hl.1 rfl (lv_room (Nat.le_of_ble_eq_true rfl)) dL_law_836 ⟨Nat.le_of_ble_eq_true rfl, Nat.le_of_ble_eq_true rfl⟩) hA hw sLM1 (fun u9 => sLM u9) (fun r3 u4 H locs h hw => ?_)
  obtain ⟨S1, J1⟩ := u4
  obtain ⟨hu, h⟩ := h
  replace hu : J = J1 := hu.symm
  subst hu
  refine lv_icmp_eq (tgt := 1442) hx hb dL_law_839 (by decide) (fun c => ?_) (fun c => absurd h.1 c)
  exact kk C1 N S1 J _ _ h.2 hw
set_option maxRecDepth 100000 in
set_option maxHeartbeats 4000000 in
theorem law_late {p : Program} {l : Launch} {e : Env} {s : State} {m : MethodId} {args : Array Value} {below : List Frame} {meth : Method} {c : Code} {A : Nat → Prop} {Q : State → Prop} {g : Gl} {aK aV : Nat → Nat} {q : Nat → Nat → Nat} {q6 : Nat → Nat} {b L i : Nat} {xs : Nat → Int32} {Inv : (Nat → Bun) → (Nat → Lon) → Bun → Lon → Prop} {C : Nat → Bun} {N : Nat → Lon} {S : Bun} {J : Lon} {H : Heap} {locs : List Loc} {ls : Array Slot} (hC : CallFix p m c cL_law 4 s args wsL_law RL) (hA : ∀ q : Nat, s.heap.size ≤ q → A q) (hK : va_K g.1 vwCl (tysG g.2) s) (hE : E5 aK aV A s) (hX : va_X b L xs s s.heap) (hbl : b < s.heap.size) (hbA : ¬ A b) (hi : i + 7 ≤ L) (hL : L ≤ 448) (ho : lo_late Inv) (hI : Inv C N S J) (hw : Wd g.1 A s.heap (wC g q (C, N) ++ wM g q6 (S, J)) H locs) (hl : lv_has ls 4 [(0, .ref b), (1, .ref (q 0 0)), (2, .ref (q6 0)), (3, .int (nI i))]) (kk : ∀ (C : Nat → Bun) (N : Nat → Lon) (S : Bun) (J : Lon) (H : Heap) (locs : List Loc), Inv C N S J → Wd g.1 A s.heap (wC g q (C, N) ++ wM g q6 (S, J)) H locs → W p l e room_1 s m args below meth c H locs 244 4135 Q (F0 m 1442 ls [])) : W p l e room_1 s m args below meth c H locs 244 4135 Q (F0 m 844 ls []) := by
  obtain ⟨hx, hb, -, hown, hts⟩ := id hC
  have hi1 : vp_in (nI i + (1 : Int32)) L := by rw [show (nI i + (1 : Int32)) = nI (i + 1) from nI_add i 1]; exact vp_in_nI (by omega) (by omega)
  have hi2 : vp_in (nI i + (2 : Int32)) L := by rw [show (nI i + (2 : Int32)) = nI (i + 2) from nI_add i 2]; exact vp_in_nI (by omega) (by omega)
  have hi3 : vp_in (nI i + (3 : Int32)) L := by rw [show (nI i + (3 : Int32)) = nI (i + 3) from nI_add i 3]; exact vp_in_nI (by omega) (by omega)
  have hi4 : vp_in (nI i + (4 : Int32)) L := by rw [show (nI i + (4 : Int32)) = nI (i + 4) from nI_add i 4]; exact vp_in_nI (by omega) (by omega)
  have hi5 : vp_in (nI i + (5 : Int32)) L := by rw [show (nI i + (5 : Int32)) = nI (i + 5) from nI_add i 5]; exact vp_in_nI (by omega) (by omega)
  have hi6 : vp_in (nI i + (6 : Int32)) L := by rw [show (nI i + (6 : Int32)) = nI (i + 6) from nI_add i 6]; exact vp_in_nI (by omega) (by omega)
  refine lv_aload_n hx hb dL_law_844 rfl (lv_at hl 1 rfl) ?_
  refine lv_aload_n hx hb dL_law_845 rfl (lv_at hl 0 rfl) ?_
  refine lv_iload_n hx hb dL_law_846 rfl (lv_at hl 3 rfl) ?_
  refine lv_iconst (v := (1 : Int32)) hx hb dL_law_847 (by decide) ?_
  refine lv_iadd hx hb dL_law_848 ?_
  refine va_sld hx hb hX hbl hbA hw.2.2 hi1 dL_law_849 ?_
  refine lv_aload_n hx hb dL_law_850 rfl (lv_at hl 0 rfl) ?_
  refine lv_iload_n hx hb dL_law_851 rfl (lv_at hl 3 rfl) ?_
  refine lv_iconst (v := (2 : Int32)) hx hb dL_law_852 (by decide) ?_
  refine lv_iadd hx hb dL_law_853 ?_
  refine va_sld hx hb hX hbl hbA hw.2.2 hi2 dL_law_854 ?_
  have h := ho C N S J (xs ((nI i) + (1 : Int32)).toNatClampNeg) (xs ((nI i) + (2 : Int32)).toNatClampNeg) hI
  refine lcalli (w1 := (fun u9 => wC g q u9 ++ wM g q6 (S, J))) (va_runV (As := [.int (xs ((nI i) + (1 : Int32)).toNatClampNeg), .int (xs ((nI i) + (2 : Int32)).toNatClampNeg)]) (rest := []) hC (kX5_late l g aK aV q H.size C N (xs ((nI i) + (1 : Int32)).toNatClampNeg) (xs ((nI i) + (2 : Int32)).toNatClampNeg) _ h) (cwV 2 hts gL_law_X5_late rfl rfl rfl (by decide +kernel) ⟨Nat.le_of_ble_eq_true rfl, Nat.le_of_ble_eq_true rfl⟩) (mpreV (E5_ok aK aV) hK hE hA hw sLC1 0 rfl rfl) rfl rfl hl.1 rfl (lv_room (Nat.le_of_ble_eq_true rfl)) dL_law_855 ⟨Nat.le_of_ble_eq_true rfl, Nat.le_of_ble_eq_true rfl⟩) hA hw sLC1 (fun u9 => sLC u9) (fun r1 u2 H locs h hw => ?_)
  obtain ⟨C1, N1⟩ := u2
  obtain ⟨hu, h⟩ := h
  replace hu : N = N1 := hu.symm
  subst hu
  refine lv_aload_n hx hb dL_law_858 rfl (lv_at hl 2 rfl) ?_
  refine lv_aload_n hx hb dL_law_859 rfl (lv_at hl 0 rfl) ?_
  refine lv_iload_n hx hb dL_law_860 rfl (lv_at hl 3 rfl) ?_
  refine lv_iconst (v := (1 : Int32)) hx hb dL_law_861 (by decide) ?_
  refine lv_iadd hx hb dL_law_862 ?_
  refine va_sld hx hb hX hbl hbA hw.2.2 hi1 dL_law_863 ?_
  refine lv_aload_n hx hb dL_law_864 rfl (lv_at hl 0 rfl) ?_
  refine lv_iload_n hx hb dL_law_865 rfl (lv_at hl 3 rfl) ?_
  refine lv_iconst (v := (2 : Int32)) hx hb dL_law_866 (by decide) ?_
  refine lv_iadd hx hb dL_law_867 ?_
  refine va_sld hx hb hX hbl hbA hw.2.2 hi2 dL_law_868 ?_
  refine lcalli (w1 := (fun u9 => wC g q (C1, N) ++ wM g q6 u9)) (va_runV (As := [.int (xs ((nI i) + (1 : Int32)).toNatClampNeg), .int (xs ((nI i) + (2 : Int32)).toNatClampNeg)]) (rest := [.int r1]) hC (kX6_late l g q6 H.size S J (xs ((nI i) + (1 : Int32)).toNatClampNeg) (xs ((nI i) + (2 : Int32)).toNatClampNeg) _ h) (cwV 2 hts gL_law_X6_late rfl rfl rfl (by decide +kernel) ⟨Nat.le_of_ble_eq_true rfl, Nat.le_of_ble_eq_true rfl⟩) (mpreV E0_ok hK trivial hA hw sLM1 0 rfl rfl) rfl rfl hl.1 rfl (lv_room (Nat.le_of_ble_eq_true rfl)) dL_law_869 ⟨Nat.le_of_ble_eq_true rfl, Nat.le_of_ble_eq_true rfl⟩) hA hw sLM1 (fun u9 => sLM u9) (fun r3 u4 H locs h hw => ?_)
  obtain ⟨S1, J1⟩ := u4
  obtain ⟨hu, h⟩ := h
  replace hu : J = J1 := hu.symm
  subst hu
  refine lv_icmp_eq (tgt := 1442) hx hb dL_law_872 (by decide) (fun c => ?_) (fun c => absurd h.1 c)
  exact kk C1 N S1 J _ _ h.2 hw
set_option maxRecDepth 100000 in
set_option maxHeartbeats 4000000 in
theorem law_done {p : Program} {l : Launch} {e : Env} {s : State} {m : MethodId} {args : Array Value} {below : List Frame} {meth : Method} {c : Code} {A : Nat → Prop} {Q : State → Prop} {g : Gl} {aK aV : Nat → Nat} {q : Nat → Nat → Nat} {q6 : Nat → Nat} {b L i : Nat} {xs : Nat → Int32} {Inv : (Nat → Bun) → (Nat → Lon) → Bun → Lon → Prop} {C : Nat → Bun} {N : Nat → Lon} {S : Bun} {J : Lon} {H : Heap} {locs : List Loc} {ls : Array Slot} (hC : CallFix p m c cL_law 4 s args wsL_law RL) (hA : ∀ q : Nat, s.heap.size ≤ q → A q) (hK : va_K g.1 vwCl (tysG g.2) s) (hE : E5 aK aV A s) (hX : va_X b L xs s s.heap) (hbl : b < s.heap.size) (hbA : ¬ A b) (hi : i + 7 ≤ L) (hL : L ≤ 448) (ho : lo_done Inv) (hI : Inv C N S J) (hw : Wd g.1 A s.heap (wC g q (C, N) ++ wM g q6 (S, J)) H locs) (hl : lv_has ls 4 [(0, .ref b), (1, .ref (q 0 0)), (2, .ref (q6 0)), (3, .int (nI i))]) (kk : ∀ (C : Nat → Bun) (N : Nat → Lon) (S : Bun) (J : Lon) (H : Heap) (locs : List Loc), Inv C N S J → Wd g.1 A s.heap (wC g q (C, N) ++ wM g q6 (S, J)) H locs → W p l e room_1 s m args below meth c H locs 244 4135 Q (F0 m 1442 ls [])) : W p l e room_1 s m args below meth c H locs 244 4135 Q (F0 m 877 ls []) := by
  obtain ⟨hx, hb, -, hown, hts⟩ := id hC
  have hi1 : vp_in (nI i + (1 : Int32)) L := by rw [show (nI i + (1 : Int32)) = nI (i + 1) from nI_add i 1]; exact vp_in_nI (by omega) (by omega)
  have hi2 : vp_in (nI i + (2 : Int32)) L := by rw [show (nI i + (2 : Int32)) = nI (i + 2) from nI_add i 2]; exact vp_in_nI (by omega) (by omega)
  have hi3 : vp_in (nI i + (3 : Int32)) L := by rw [show (nI i + (3 : Int32)) = nI (i + 3) from nI_add i 3]; exact vp_in_nI (by omega) (by omega)
  have hi4 : vp_in (nI i + (4 : Int32)) L := by rw [show (nI i + (4 : Int32)) = nI (i + 4) from nI_add i 4]; exact vp_in_nI (by omega) (by omega)
  have hi5 : vp_in (nI i + (5 : Int32)) L := by rw [show (nI i + (5 : Int32)) = nI (i + 5) from nI_add i 5]; exact vp_in_nI (by omega) (by omega)
  have hi6 : vp_in (nI i + (6 : Int32)) L := by rw [show (nI i + (6 : Int32)) = nI (i + 6) from nI_add i 6]; exact vp_in_nI (by omega) (by omega)
  refine lv_aload_n hx hb dL_law_877 rfl (lv_at hl 1 rfl) ?_
  refine lv_aload_n hx hb dL_law_878 rfl (lv_at hl 0 rfl) ?_
  refine lv_iload_n hx hb dL_law_879 rfl (lv_at hl 3 rfl) ?_
  refine lv_iconst (v := (1 : Int32)) hx hb dL_law_880 (by decide) ?_
  refine lv_iadd hx hb dL_law_881 ?_
  refine va_sld hx hb hX hbl hbA hw.2.2 hi1 dL_law_882 ?_
  refine lv_aload_n hx hb dL_law_883 rfl (lv_at hl 0 rfl) ?_
  refine lv_iload_n hx hb dL_law_884 rfl (lv_at hl 3 rfl) ?_
  refine lv_iconst (v := (2 : Int32)) hx hb dL_law_885 (by decide) ?_
  refine lv_iadd hx hb dL_law_886 ?_
  refine va_sld hx hb hX hbl hbA hw.2.2 hi2 dL_law_887 ?_
  have h := ho C N S J (xs ((nI i) + (1 : Int32)).toNatClampNeg) (xs ((nI i) + (2 : Int32)).toNatClampNeg) hI
  refine lcalli (w1 := (fun u9 => wC g q u9 ++ wM g q6 (S, J))) (va_runV (As := [.int (xs ((nI i) + (1 : Int32)).toNatClampNeg), .int (xs ((nI i) + (2 : Int32)).toNatClampNeg)]) (rest := []) hC (kX5_done l g aK aV q H.size C N (xs ((nI i) + (1 : Int32)).toNatClampNeg) (xs ((nI i) + (2 : Int32)).toNatClampNeg) _ h) (cwV 2 hts gL_law_X5_done rfl rfl rfl (by decide +kernel) ⟨Nat.le_of_ble_eq_true rfl, Nat.le_of_ble_eq_true rfl⟩) (mpreV (E5_ok aK aV) hK hE hA hw sLC1 0 rfl rfl) rfl rfl hl.1 rfl (lv_room (Nat.le_of_ble_eq_true rfl)) dL_law_888 ⟨Nat.le_of_ble_eq_true rfl, Nat.le_of_ble_eq_true rfl⟩) hA hw sLC1 (fun u9 => sLC u9) (fun r1 u2 H locs h hw => ?_)
  obtain ⟨C1, N1⟩ := u2
  obtain ⟨hu, h⟩ := h
  replace hu : N = N1 := hu.symm
  subst hu
  refine lv_aload_n hx hb dL_law_891 rfl (lv_at hl 2 rfl) ?_
  refine lv_aload_n hx hb dL_law_892 rfl (lv_at hl 0 rfl) ?_
  refine lv_iload_n hx hb dL_law_893 rfl (lv_at hl 3 rfl) ?_
  refine lv_iconst (v := (1 : Int32)) hx hb dL_law_894 (by decide) ?_
  refine lv_iadd hx hb dL_law_895 ?_
  refine va_sld hx hb hX hbl hbA hw.2.2 hi1 dL_law_896 ?_
  refine lv_aload_n hx hb dL_law_897 rfl (lv_at hl 0 rfl) ?_
  refine lv_iload_n hx hb dL_law_898 rfl (lv_at hl 3 rfl) ?_
  refine lv_iconst (v := (2 : Int32)) hx hb dL_law_899 (by decide) ?_
  refine lv_iadd hx hb dL_law_900 ?_
  refine va_sld hx hb hX hbl hbA hw.2.2 hi2 dL_law_901 ?_
  refine lcalli (w1 := (fun u9 => wC g q (C1, N) ++ wM g q6 u9)) (va_runV (As := [.int (xs ((nI i) + (1 : Int32)).toNatClampNeg), .int (xs ((nI i) + (2 : Int32)).toNatClampNeg)]) (rest := [.int r1]) hC (kX6_done l g q6 H.size S J (xs ((nI i) + (1 : Int32)).toNatClampNeg) (xs ((nI i) + (2 : Int32)).toNatClampNeg) _ h) (cwV 2 hts gL_law_X6_done rfl rfl rfl (by decide +kernel) ⟨Nat.le_of_ble_eq_true rfl, Nat.le_of_ble_eq_true rfl⟩) (mpreV E0_ok hK trivial hA hw sLM1 0 rfl rfl) rfl rfl hl.1 rfl (lv_room (Nat.le_of_ble_eq_true rfl)) dL_law_902 ⟨Nat.le_of_ble_eq_true rfl, Nat.le_of_ble_eq_true rfl⟩) hA hw sLM1 (fun u9 => sLM u9) (fun r3 u4 H locs h hw => ?_)
  obtain ⟨S1, J1⟩ := u4
  obtain ⟨hu, h⟩ := h
  replace hu : J = J1 := hu.symm
  subst hu
  refine lv_icmp_eq (tgt := 1442) hx hb dL_law_905 (by decide) (fun c => ?_) (fun c => absurd h.1 c)
  exact kk C1 N S1 J _ _ h.2 hw
set_option maxRecDepth 100000 in
set_option maxHeartbeats 4000000 in
theorem law_yields {p : Program} {l : Launch} {e : Env} {s : State} {m : MethodId} {args : Array Value} {below : List Frame} {meth : Method} {c : Code} {A : Nat → Prop} {Q : State → Prop} {g : Gl} {aK aV : Nat → Nat} {q : Nat → Nat → Nat} {q6 : Nat → Nat} {b L i : Nat} {xs : Nat → Int32} {Inv : (Nat → Bun) → (Nat → Lon) → Bun → Lon → Prop} {C : Nat → Bun} {N : Nat → Lon} {S : Bun} {J : Lon} {H : Heap} {locs : List Loc} {ls : Array Slot} (hC : CallFix p m c cL_law 4 s args wsL_law RL) (hA : ∀ q : Nat, s.heap.size ≤ q → A q) (hK : va_K g.1 vwCl (tysG g.2) s) (hE : E5 aK aV A s) (hX : va_X b L xs s s.heap) (hbl : b < s.heap.size) (hbA : ¬ A b) (hi : i + 7 ≤ L) (hL : L ≤ 448) (ho : lo_yields Inv) (hI : Inv C N S J) (hw : Wd g.1 A s.heap (wC g q (C, N) ++ wM g q6 (S, J)) H locs) (hl : lv_has ls 4 [(0, .ref b), (1, .ref (q 0 0)), (2, .ref (q6 0)), (3, .int (nI i))]) (kk : ∀ (C : Nat → Bun) (N : Nat → Lon) (S : Bun) (J : Lon) (H : Heap) (locs : List Loc), Inv C N S J → Wd g.1 A s.heap (wC g q (C, N) ++ wM g q6 (S, J)) H locs → W p l e room_1 s m args below meth c H locs 244 4135 Q (F0 m 1442 ls [])) : W p l e room_1 s m args below meth c H locs 244 4135 Q (F0 m 910 ls []) := by
  obtain ⟨hx, hb, -, hown, hts⟩ := id hC
  have hi1 : vp_in (nI i + (1 : Int32)) L := by rw [show (nI i + (1 : Int32)) = nI (i + 1) from nI_add i 1]; exact vp_in_nI (by omega) (by omega)
  have hi2 : vp_in (nI i + (2 : Int32)) L := by rw [show (nI i + (2 : Int32)) = nI (i + 2) from nI_add i 2]; exact vp_in_nI (by omega) (by omega)
  have hi3 : vp_in (nI i + (3 : Int32)) L := by rw [show (nI i + (3 : Int32)) = nI (i + 3) from nI_add i 3]; exact vp_in_nI (by omega) (by omega)
  have hi4 : vp_in (nI i + (4 : Int32)) L := by rw [show (nI i + (4 : Int32)) = nI (i + 4) from nI_add i 4]; exact vp_in_nI (by omega) (by omega)
  have hi5 : vp_in (nI i + (5 : Int32)) L := by rw [show (nI i + (5 : Int32)) = nI (i + 5) from nI_add i 5]; exact vp_in_nI (by omega) (by omega)
  have hi6 : vp_in (nI i + (6 : Int32)) L := by rw [show (nI i + (6 : Int32)) = nI (i + 6) from nI_add i 6]; exact vp_in_nI (by omega) (by omega)
  refine lv_aload_n hx hb dL_law_910 rfl (lv_at hl 1 rfl) ?_
  refine lv_aload_n hx hb dL_law_911 rfl (lv_at hl 0 rfl) ?_
  refine lv_iload_n hx hb dL_law_912 rfl (lv_at hl 3 rfl) ?_
  refine lv_iconst (v := (1 : Int32)) hx hb dL_law_913 (by decide) ?_
  refine lv_iadd hx hb dL_law_914 ?_
  refine va_sld hx hb hX hbl hbA hw.2.2 hi1 dL_law_915 ?_
  have h := ho C N S J (xs ((nI i) + (1 : Int32)).toNatClampNeg) hI
  refine lcalli (w1 := (fun u9 => wC g q u9 ++ wM g q6 (S, J))) (va_runV (As := [.int (xs ((nI i) + (1 : Int32)).toNatClampNeg)]) (rest := []) hC (kX5_yields l g aK aV q H.size C N (xs ((nI i) + (1 : Int32)).toNatClampNeg) _ h) (cwV 1 hts gL_law_X5_yields rfl rfl rfl (by decide +kernel) ⟨Nat.le_of_ble_eq_true rfl, Nat.le_of_ble_eq_true rfl⟩) (mpreV (E5_ok aK aV) hK hE hA hw sLC1 0 rfl rfl) rfl rfl hl.1 rfl (lv_room (Nat.le_of_ble_eq_true rfl)) dL_law_916 ⟨Nat.le_of_ble_eq_true rfl, Nat.le_of_ble_eq_true rfl⟩) hA hw sLC1 (fun u9 => sLC u9) (fun r1 u2 H locs h hw => ?_)
  obtain ⟨C1, N1⟩ := u2
  obtain ⟨hu, h⟩ := h
  replace hu : N = N1 := hu.symm
  subst hu
  refine lv_aload_n hx hb dL_law_919 rfl (lv_at hl 2 rfl) ?_
  refine lv_aload_n hx hb dL_law_920 rfl (lv_at hl 0 rfl) ?_
  refine lv_iload_n hx hb dL_law_921 rfl (lv_at hl 3 rfl) ?_
  refine lv_iconst (v := (1 : Int32)) hx hb dL_law_922 (by decide) ?_
  refine lv_iadd hx hb dL_law_923 ?_
  refine va_sld hx hb hX hbl hbA hw.2.2 hi1 dL_law_924 ?_
  refine lcalli (w1 := (fun u9 => wC g q (C1, N) ++ wM g q6 u9)) (va_runV (As := [.int (xs ((nI i) + (1 : Int32)).toNatClampNeg)]) (rest := [.int r1]) hC (kX6_yields l g q6 H.size S J (xs ((nI i) + (1 : Int32)).toNatClampNeg) _ h) (cwV 1 hts gL_law_X6_yields rfl rfl rfl (by decide +kernel) ⟨Nat.le_of_ble_eq_true rfl, Nat.le_of_ble_eq_true rfl⟩) (mpreV E0_ok hK trivial hA hw sLM1 0 rfl rfl) rfl rfl hl.1 rfl (lv_room (Nat.le_of_ble_eq_true rfl)) dL_law_925 ⟨Nat.le_of_ble_eq_true rfl, Nat.le_of_ble_eq_true rfl⟩) hA hw sLM1 (fun u9 => sLM u9) (fun r3 u4 H locs h hw => ?_)
  obtain ⟨S1, J1⟩ := u4
  obtain ⟨hu, h⟩ := h
  replace hu : J = J1 := hu.symm
  subst hu
  refine lv_icmp_eq (tgt := 1442) hx hb dL_law_928 (by decide) (fun c => ?_) (fun c => absurd h.1 c)
  exact kk C1 N S1 J _ _ h.2 hw
set_option maxRecDepth 100000 in
set_option maxHeartbeats 4000000 in
theorem law_row {p : Program} {l : Launch} {e : Env} {s : State} {m : MethodId} {args : Array Value} {below : List Frame} {meth : Method} {c : Code} {A : Nat → Prop} {Q : State → Prop} {g : Gl} {aK aV : Nat → Nat} {q : Nat → Nat → Nat} {q6 : Nat → Nat} {b L i : Nat} {xs : Nat → Int32} {Inv : (Nat → Bun) → (Nat → Lon) → Bun → Lon → Prop} {C : Nat → Bun} {N : Nat → Lon} {S : Bun} {J : Lon} {H : Heap} {locs : List Loc} {ls : Array Slot} (hC : CallFix p m c cL_law 4 s args wsL_law RL) (hA : ∀ q : Nat, s.heap.size ≤ q → A q) (hK : va_K g.1 vwCl (tysG g.2) s) (hE : E5 aK aV A s) (hX : va_X b L xs s s.heap) (hbl : b < s.heap.size) (hbA : ¬ A b) (hi : i + 7 ≤ L) (hL : L ≤ 448) (ho : lo_row Inv) (hI : Inv C N S J) (hw : Wd g.1 A s.heap (wC g q (C, N) ++ wM g q6 (S, J)) H locs) (hl : lv_has ls 4 [(0, .ref b), (1, .ref (q 0 0)), (2, .ref (q6 0)), (3, .int (nI i))]) (kk : ∀ (C : Nat → Bun) (N : Nat → Lon) (S : Bun) (J : Lon) (H : Heap) (locs : List Loc), Inv C N S J → Wd g.1 A s.heap (wC g q (C, N) ++ wM g q6 (S, J)) H locs → W p l e room_1 s m args below meth c H locs 244 4135 Q (F0 m 1442 ls [])) : W p l e room_1 s m args below meth c H locs 244 4135 Q (F0 m 933 ls []) := by
  obtain ⟨hx, hb, -, hown, hts⟩ := id hC
  have hi1 : vp_in (nI i + (1 : Int32)) L := by rw [show (nI i + (1 : Int32)) = nI (i + 1) from nI_add i 1]; exact vp_in_nI (by omega) (by omega)
  have hi2 : vp_in (nI i + (2 : Int32)) L := by rw [show (nI i + (2 : Int32)) = nI (i + 2) from nI_add i 2]; exact vp_in_nI (by omega) (by omega)
  have hi3 : vp_in (nI i + (3 : Int32)) L := by rw [show (nI i + (3 : Int32)) = nI (i + 3) from nI_add i 3]; exact vp_in_nI (by omega) (by omega)
  have hi4 : vp_in (nI i + (4 : Int32)) L := by rw [show (nI i + (4 : Int32)) = nI (i + 4) from nI_add i 4]; exact vp_in_nI (by omega) (by omega)
  have hi5 : vp_in (nI i + (5 : Int32)) L := by rw [show (nI i + (5 : Int32)) = nI (i + 5) from nI_add i 5]; exact vp_in_nI (by omega) (by omega)
  have hi6 : vp_in (nI i + (6 : Int32)) L := by rw [show (nI i + (6 : Int32)) = nI (i + 6) from nI_add i 6]; exact vp_in_nI (by omega) (by omega)
  refine lv_aload_n hx hb dL_law_933 rfl (lv_at hl 1 rfl) ?_
  refine lv_aload_n hx hb dL_law_934 rfl (lv_at hl 0 rfl) ?_
  refine lv_iload_n hx hb dL_law_935 rfl (lv_at hl 3 rfl) ?_
  refine lv_iconst (v := (1 : Int32)) hx hb dL_law_936 (by decide) ?_
  refine lv_iadd hx hb dL_law_937 ?_
  refine va_sld hx hb hX hbl hbA hw.2.2 hi1 dL_law_938 ?_
  refine lv_aload_n hx hb dL_law_939 rfl (lv_at hl 0 rfl) ?_
  refine lv_iload_n hx hb dL_law_940 rfl (lv_at hl 3 rfl) ?_
  refine lv_iconst (v := (2 : Int32)) hx hb dL_law_941 (by decide) ?_
  refine lv_iadd hx hb dL_law_942 ?_
  refine va_sld hx hb hX hbl hbA hw.2.2 hi2 dL_law_943 ?_
  refine lv_aload_n hx hb dL_law_944 rfl (lv_at hl 0 rfl) ?_
  refine lv_iload_n hx hb dL_law_945 rfl (lv_at hl 3 rfl) ?_
  refine lv_iconst (v := (3 : Int32)) hx hb dL_law_946 (by decide) ?_
  refine lv_iadd hx hb dL_law_947 ?_
  refine va_sld hx hb hX hbl hbA hw.2.2 hi3 dL_law_948 ?_
  have h := ho C N S J (xs ((nI i) + (1 : Int32)).toNatClampNeg) (xs ((nI i) + (2 : Int32)).toNatClampNeg) (xs ((nI i) + (3 : Int32)).toNatClampNeg) hI
  refine lcalli (w1 := (fun u9 => wC g q u9 ++ wM g q6 (S, J))) (va_runV (As := [.int (xs ((nI i) + (1 : Int32)).toNatClampNeg), .int (xs ((nI i) + (2 : Int32)).toNatClampNeg), .int (xs ((nI i) + (3 : Int32)).toNatClampNeg)]) (rest := []) hC (kX5_row l g aK aV q H.size C N (xs ((nI i) + (1 : Int32)).toNatClampNeg) (xs ((nI i) + (2 : Int32)).toNatClampNeg) (xs ((nI i) + (3 : Int32)).toNatClampNeg) _ h) (cwV 3 hts gL_law_X5_row rfl rfl rfl (by decide +kernel) ⟨Nat.le_of_ble_eq_true rfl, Nat.le_of_ble_eq_true rfl⟩) (mpreV (E5_ok aK aV) hK hE hA hw sLC1 0 rfl rfl) rfl rfl hl.1 rfl (lv_room (Nat.le_of_ble_eq_true rfl)) dL_law_949 ⟨Nat.le_of_ble_eq_true rfl, Nat.le_of_ble_eq_true rfl⟩) hA hw sLC1 (fun u9 => sLC u9) (fun r1 u2 H locs h hw => ?_)
  obtain ⟨C1, N1⟩ := u2
  obtain ⟨hu, h⟩ := h
  replace hu : N = N1 := hu.symm
  subst hu
  refine lv_aload_n hx hb dL_law_952 rfl (lv_at hl 2 rfl) ?_
  refine lv_aload_n hx hb dL_law_953 rfl (lv_at hl 0 rfl) ?_
  refine lv_iload_n hx hb dL_law_954 rfl (lv_at hl 3 rfl) ?_
  refine lv_iconst (v := (1 : Int32)) hx hb dL_law_955 (by decide) ?_
  refine lv_iadd hx hb dL_law_956 ?_
  refine va_sld hx hb hX hbl hbA hw.2.2 hi1 dL_law_957 ?_
  refine lv_aload_n hx hb dL_law_958 rfl (lv_at hl 0 rfl) ?_
  refine lv_iload_n hx hb dL_law_959 rfl (lv_at hl 3 rfl) ?_
  refine lv_iconst (v := (2 : Int32)) hx hb dL_law_960 (by decide) ?_
  refine lv_iadd hx hb dL_law_961 ?_
  refine va_sld hx hb hX hbl hbA hw.2.2 hi2 dL_law_962 ?_
  refine lv_aload_n hx hb dL_law_963 rfl (lv_at hl 0 rfl) ?_
  refine lv_iload_n hx hb dL_law_964 rfl (lv_at hl 3 rfl) ?_
  refine lv_iconst (v := (3 : Int32)) hx hb dL_law_965 (by decide) ?_
  refine lv_iadd hx hb dL_law_966 ?_
  refine va_sld hx hb hX hbl hbA hw.2.2 hi3 dL_law_967 ?_
  refine lcalli (w1 := (fun u9 => wC g q (C1, N) ++ wM g q6 u9)) (va_runV (As := [.int (xs ((nI i) + (1 : Int32)).toNatClampNeg), .int (xs ((nI i) + (2 : Int32)).toNatClampNeg), .int (xs ((nI i) + (3 : Int32)).toNatClampNeg)]) (rest := [.int r1]) hC (kX6_row l g q6 H.size S J (xs ((nI i) + (1 : Int32)).toNatClampNeg) (xs ((nI i) + (2 : Int32)).toNatClampNeg) (xs ((nI i) + (3 : Int32)).toNatClampNeg) _ h) (cwV 3 hts gL_law_X6_row rfl rfl rfl (by decide +kernel) ⟨Nat.le_of_ble_eq_true rfl, Nat.le_of_ble_eq_true rfl⟩) (mpreV E0_ok hK trivial hA hw sLM1 0 rfl rfl) rfl rfl hl.1 rfl (lv_room (Nat.le_of_ble_eq_true rfl)) dL_law_968 ⟨Nat.le_of_ble_eq_true rfl, Nat.le_of_ble_eq_true rfl⟩) hA hw sLM1 (fun u9 => sLM u9) (fun r3 u4 H locs h hw => ?_)
  obtain ⟨S1, J1⟩ := u4
  obtain ⟨hu, h⟩ := h
  replace hu : J = J1 := hu.symm
  subst hu
  refine lv_icmp_eq (tgt := 1442) hx hb dL_law_971 (by decide) (fun c => ?_) (fun c => absurd h.1 c)
  exact kk C1 N S1 J _ _ h.2 hw
set_option maxRecDepth 100000 in
set_option maxHeartbeats 4000000 in
theorem law_lacks {p : Program} {l : Launch} {e : Env} {s : State} {m : MethodId} {args : Array Value} {below : List Frame} {meth : Method} {c : Code} {A : Nat → Prop} {Q : State → Prop} {g : Gl} {aK aV : Nat → Nat} {q : Nat → Nat → Nat} {q6 : Nat → Nat} {b L i : Nat} {xs : Nat → Int32} {Inv : (Nat → Bun) → (Nat → Lon) → Bun → Lon → Prop} {C : Nat → Bun} {N : Nat → Lon} {S : Bun} {J : Lon} {H : Heap} {locs : List Loc} {ls : Array Slot} (hC : CallFix p m c cL_law 4 s args wsL_law RL) (hA : ∀ q : Nat, s.heap.size ≤ q → A q) (hK : va_K g.1 vwCl (tysG g.2) s) (hE : E5 aK aV A s) (hX : va_X b L xs s s.heap) (hbl : b < s.heap.size) (hbA : ¬ A b) (hi : i + 7 ≤ L) (hL : L ≤ 448) (ho : lo_lacks Inv) (hI : Inv C N S J) (hw : Wd g.1 A s.heap (wC g q (C, N) ++ wM g q6 (S, J)) H locs) (hl : lv_has ls 4 [(0, .ref b), (1, .ref (q 0 0)), (2, .ref (q6 0)), (3, .int (nI i))]) (kk : ∀ (C : Nat → Bun) (N : Nat → Lon) (S : Bun) (J : Lon) (H : Heap) (locs : List Loc), Inv C N S J → Wd g.1 A s.heap (wC g q (C, N) ++ wM g q6 (S, J)) H locs → W p l e room_1 s m args below meth c H locs 244 4135 Q (F0 m 1442 ls [])) : W p l e room_1 s m args below meth c H locs 244 4135 Q (F0 m 976 ls []) := by
  obtain ⟨hx, hb, -, hown, hts⟩ := id hC
  have hi1 : vp_in (nI i + (1 : Int32)) L := by rw [show (nI i + (1 : Int32)) = nI (i + 1) from nI_add i 1]; exact vp_in_nI (by omega) (by omega)
  have hi2 : vp_in (nI i + (2 : Int32)) L := by rw [show (nI i + (2 : Int32)) = nI (i + 2) from nI_add i 2]; exact vp_in_nI (by omega) (by omega)
  have hi3 : vp_in (nI i + (3 : Int32)) L := by rw [show (nI i + (3 : Int32)) = nI (i + 3) from nI_add i 3]; exact vp_in_nI (by omega) (by omega)
  have hi4 : vp_in (nI i + (4 : Int32)) L := by rw [show (nI i + (4 : Int32)) = nI (i + 4) from nI_add i 4]; exact vp_in_nI (by omega) (by omega)
  have hi5 : vp_in (nI i + (5 : Int32)) L := by rw [show (nI i + (5 : Int32)) = nI (i + 5) from nI_add i 5]; exact vp_in_nI (by omega) (by omega)
  have hi6 : vp_in (nI i + (6 : Int32)) L := by rw [show (nI i + (6 : Int32)) = nI (i + 6) from nI_add i 6]; exact vp_in_nI (by omega) (by omega)
  refine lv_aload_n hx hb dL_law_976 rfl (lv_at hl 1 rfl) ?_
  refine lv_aload_n hx hb dL_law_977 rfl (lv_at hl 0 rfl) ?_
  refine lv_iload_n hx hb dL_law_978 rfl (lv_at hl 3 rfl) ?_
  refine lv_iconst (v := (1 : Int32)) hx hb dL_law_979 (by decide) ?_
  refine lv_iadd hx hb dL_law_980 ?_
  refine va_sld hx hb hX hbl hbA hw.2.2 hi1 dL_law_981 ?_
  have h := ho C N S J (xs ((nI i) + (1 : Int32)).toNatClampNeg) hI
  refine lcalli (w1 := (fun u9 => wC g q u9 ++ wM g q6 (S, J))) (va_runV (As := [.int (xs ((nI i) + (1 : Int32)).toNatClampNeg)]) (rest := []) hC (kX5_lacks l g aK aV q H.size C N (xs ((nI i) + (1 : Int32)).toNatClampNeg) _ h) (cwV 1 hts gL_law_X5_lacks rfl rfl rfl (by decide +kernel) ⟨Nat.le_of_ble_eq_true rfl, Nat.le_of_ble_eq_true rfl⟩) (mpreV (E5_ok aK aV) hK hE hA hw sLC1 0 rfl rfl) rfl rfl hl.1 rfl (lv_room (Nat.le_of_ble_eq_true rfl)) dL_law_982 ⟨Nat.le_of_ble_eq_true rfl, Nat.le_of_ble_eq_true rfl⟩) hA hw sLC1 (fun u9 => sLC u9) (fun r1 u2 H locs h hw => ?_)
  obtain ⟨C1, N1⟩ := u2
  obtain ⟨hu, h⟩ := h
  replace hu : N = N1 := hu.symm
  subst hu
  refine lv_aload_n hx hb dL_law_985 rfl (lv_at hl 2 rfl) ?_
  refine lv_aload_n hx hb dL_law_986 rfl (lv_at hl 0 rfl) ?_
  refine lv_iload_n hx hb dL_law_987 rfl (lv_at hl 3 rfl) ?_
  refine lv_iconst (v := (1 : Int32)) hx hb dL_law_988 (by decide) ?_
  refine lv_iadd hx hb dL_law_989 ?_
  refine va_sld hx hb hX hbl hbA hw.2.2 hi1 dL_law_990 ?_
  refine lcalli (w1 := (fun u9 => wC g q (C1, N) ++ wM g q6 u9)) (va_runV (As := [.int (xs ((nI i) + (1 : Int32)).toNatClampNeg)]) (rest := [.int r1]) hC (kX6_lacks l g q6 H.size S J (xs ((nI i) + (1 : Int32)).toNatClampNeg) _ h) (cwV 1 hts gL_law_X6_lacks rfl rfl rfl (by decide +kernel) ⟨Nat.le_of_ble_eq_true rfl, Nat.le_of_ble_eq_true rfl⟩) (mpreV E0_ok hK trivial hA hw sLM1 0 rfl rfl) rfl rfl hl.1 rfl (lv_room (Nat.le_of_ble_eq_true rfl)) dL_law_991 ⟨Nat.le_of_ble_eq_true rfl, Nat.le_of_ble_eq_true rfl⟩) hA hw sLM1 (fun u9 => sLM u9) (fun r3 u4 H locs h hw => ?_)
  obtain ⟨S1, J1⟩ := u4
  obtain ⟨hu, h⟩ := h
  replace hu : J = J1 := hu.symm
  subst hu
  refine lv_icmp_eq (tgt := 1442) hx hb dL_law_994 (by decide) (fun c => ?_) (fun c => absurd h.1 c)
  exact kk C1 N S1 J _ _ h.2 hw
set_option maxRecDepth 100000 in
set_option maxHeartbeats 4000000 in
theorem law_feed {p : Program} {l : Launch} {e : Env} {s : State} {m : MethodId} {args : Array Value} {below : List Frame} {meth : Method} {c : Code} {A : Nat → Prop} {Q : State → Prop} {g : Gl} {aK aV : Nat → Nat} {q : Nat → Nat → Nat} {q6 : Nat → Nat} {b L i : Nat} {xs : Nat → Int32} {Inv : (Nat → Bun) → (Nat → Lon) → Bun → Lon → Prop} {C : Nat → Bun} {N : Nat → Lon} {S : Bun} {J : Lon} {H : Heap} {locs : List Loc} {ls : Array Slot} (hC : CallFix p m c cL_law 4 s args wsL_law RL) (hA : ∀ q : Nat, s.heap.size ≤ q → A q) (hK : va_K g.1 vwCl (tysG g.2) s) (hE : E5 aK aV A s) (hX : va_X b L xs s s.heap) (hbl : b < s.heap.size) (hbA : ¬ A b) (hi : i + 7 ≤ L) (hL : L ≤ 448) (ho : lo_feed Inv) (hI : Inv C N S J) (hw : Wd g.1 A s.heap (wC g q (C, N) ++ wM g q6 (S, J)) H locs) (hl : lv_has ls 4 [(0, .ref b), (1, .ref (q 0 0)), (2, .ref (q6 0)), (3, .int (nI i))]) (kk : ∀ (C : Nat → Bun) (N : Nat → Lon) (S : Bun) (J : Lon) (H : Heap) (locs : List Loc), Inv C N S J → Wd g.1 A s.heap (wC g q (C, N) ++ wM g q6 (S, J)) H locs → W p l e room_1 s m args below meth c H locs 244 4135 Q (F0 m 1442 ls [])) : W p l e room_1 s m args below meth c H locs 244 4135 Q (F0 m 999 ls []) := by
  obtain ⟨hx, hb, -, hown, hts⟩ := id hC
  have hi1 : vp_in (nI i + (1 : Int32)) L := by rw [show (nI i + (1 : Int32)) = nI (i + 1) from nI_add i 1]; exact vp_in_nI (by omega) (by omega)
  have hi2 : vp_in (nI i + (2 : Int32)) L := by rw [show (nI i + (2 : Int32)) = nI (i + 2) from nI_add i 2]; exact vp_in_nI (by omega) (by omega)
  have hi3 : vp_in (nI i + (3 : Int32)) L := by rw [show (nI i + (3 : Int32)) = nI (i + 3) from nI_add i 3]; exact vp_in_nI (by omega) (by omega)
  have hi4 : vp_in (nI i + (4 : Int32)) L := by rw [show (nI i + (4 : Int32)) = nI (i + 4) from nI_add i 4]; exact vp_in_nI (by omega) (by omega)
  have hi5 : vp_in (nI i + (5 : Int32)) L := by rw [show (nI i + (5 : Int32)) = nI (i + 5) from nI_add i 5]; exact vp_in_nI (by omega) (by omega)
  have hi6 : vp_in (nI i + (6 : Int32)) L := by rw [show (nI i + (6 : Int32)) = nI (i + 6) from nI_add i 6]; exact vp_in_nI (by omega) (by omega)
  refine lv_aload_n hx hb dL_law_999 rfl (lv_at hl 1 rfl) ?_
  refine lv_aload_n hx hb dL_law_1000 rfl (lv_at hl 0 rfl) ?_
  refine lv_iload_n hx hb dL_law_1001 rfl (lv_at hl 3 rfl) ?_
  refine lv_iconst (v := (1 : Int32)) hx hb dL_law_1002 (by decide) ?_
  refine lv_iadd hx hb dL_law_1003 ?_
  refine va_sld hx hb hX hbl hbA hw.2.2 hi1 dL_law_1004 ?_
  refine lv_aload_n hx hb dL_law_1005 rfl (lv_at hl 0 rfl) ?_
  refine lv_iload_n hx hb dL_law_1006 rfl (lv_at hl 3 rfl) ?_
  refine lv_iconst (v := (2 : Int32)) hx hb dL_law_1007 (by decide) ?_
  refine lv_iadd hx hb dL_law_1008 ?_
  refine va_sld hx hb hX hbl hbA hw.2.2 hi2 dL_law_1009 ?_
  have h := ho C N S J (xs ((nI i) + (1 : Int32)).toNatClampNeg) (xs ((nI i) + (2 : Int32)).toNatClampNeg) hI
  refine lcalli (w1 := (fun u9 => wC g q u9 ++ wM g q6 (S, J))) (va_runV (As := [.int (xs ((nI i) + (1 : Int32)).toNatClampNeg), .int (xs ((nI i) + (2 : Int32)).toNatClampNeg)]) (rest := []) hC (kX5_feed l g aK aV q H.size C N (xs ((nI i) + (1 : Int32)).toNatClampNeg) (xs ((nI i) + (2 : Int32)).toNatClampNeg) _ h) (cwV 2 hts gL_law_X5_feed rfl rfl rfl (by decide +kernel) ⟨Nat.le_of_ble_eq_true rfl, Nat.le_of_ble_eq_true rfl⟩) (mpreV (E5_ok aK aV) hK hE hA hw sLC1 0 rfl rfl) rfl rfl hl.1 rfl (lv_room (Nat.le_of_ble_eq_true rfl)) dL_law_1010 ⟨Nat.le_of_ble_eq_true rfl, Nat.le_of_ble_eq_true rfl⟩) hA hw sLC1 (fun u9 => sLC u9) (fun r1 u2 H locs h hw => ?_)
  obtain ⟨C1, N1⟩ := u2
  obtain ⟨hu, h⟩ := h
  replace hu : N = N1 := hu.symm
  subst hu
  refine lv_aload_n hx hb dL_law_1013 rfl (lv_at hl 2 rfl) ?_
  refine lv_aload_n hx hb dL_law_1014 rfl (lv_at hl 0 rfl) ?_
  refine lv_iload_n hx hb dL_law_1015 rfl (lv_at hl 3 rfl) ?_
  refine lv_iconst (v := (1 : Int32)) hx hb dL_law_1016 (by decide) ?_
  refine lv_iadd hx hb dL_law_1017 ?_
  refine va_sld hx hb hX hbl hbA hw.2.2 hi1 dL_law_1018 ?_
  refine lv_aload_n hx hb dL_law_1019 rfl (lv_at hl 0 rfl) ?_
  refine lv_iload_n hx hb dL_law_1020 rfl (lv_at hl 3 rfl) ?_
  refine lv_iconst (v := (2 : Int32)) hx hb dL_law_1021 (by decide) ?_
  refine lv_iadd hx hb dL_law_1022 ?_
  refine va_sld hx hb hX hbl hbA hw.2.2 hi2 dL_law_1023 ?_
  refine lcalli (w1 := (fun u9 => wC g q (C1, N) ++ wM g q6 u9)) (va_runV (As := [.int (xs ((nI i) + (1 : Int32)).toNatClampNeg), .int (xs ((nI i) + (2 : Int32)).toNatClampNeg)]) (rest := [.int r1]) hC (kX6_feed l g q6 H.size S J (xs ((nI i) + (1 : Int32)).toNatClampNeg) (xs ((nI i) + (2 : Int32)).toNatClampNeg) _ h) (cwV 2 hts gL_law_X6_feed rfl rfl rfl (by decide +kernel) ⟨Nat.le_of_ble_eq_true rfl, Nat.le_of_ble_eq_true rfl⟩) (mpreV E0_ok hK trivial hA hw sLM1 0 rfl rfl) rfl rfl hl.1 rfl (lv_room (Nat.le_of_ble_eq_true rfl)) dL_law_1024 ⟨Nat.le_of_ble_eq_true rfl, Nat.le_of_ble_eq_true rfl⟩) hA hw sLM1 (fun u9 => sLM u9) (fun r3 u4 H locs h hw => ?_)
  obtain ⟨S1, J1⟩ := u4
  obtain ⟨hu, h⟩ := h
  replace hu : J = J1 := hu.symm
  subst hu
  refine lv_icmp_eq (tgt := 1442) hx hb dL_law_1027 (by decide) (fun c => ?_) (fun c => absurd h.1 c)
  exact kk C1 N S1 J _ _ h.2 hw
set_option maxRecDepth 100000 in
set_option maxHeartbeats 4000000 in
theorem law_wipe {p : Program} {l : Launch} {e : Env} {s : State} {m : MethodId} {args : Array Value} {below : List Frame} {meth : Method} {c : Code} {A : Nat → Prop} {Q : State → Prop} {g : Gl} {aK aV : Nat → Nat} {q : Nat → Nat → Nat} {q6 : Nat → Nat} {b L i : Nat} {xs : Nat → Int32} {Inv : (Nat → Bun) → (Nat → Lon) → Bun → Lon → Prop} {C : Nat → Bun} {N : Nat → Lon} {S : Bun} {J : Lon} {H : Heap} {locs : List Loc} {ls : Array Slot} (hC : CallFix p m c cL_law 4 s args wsL_law RL) (hA : ∀ q : Nat, s.heap.size ≤ q → A q) (hK : va_K g.1 vwCl (tysG g.2) s) (hE : E5 aK aV A s) (hX : va_X b L xs s s.heap) (hbl : b < s.heap.size) (hbA : ¬ A b) (hi : i + 7 ≤ L) (hL : L ≤ 448) (ho : lo_wipe Inv) (hI : Inv C N S J) (hw : Wd g.1 A s.heap (wC g q (C, N) ++ wM g q6 (S, J)) H locs) (hl : lv_has ls 4 [(0, .ref b), (1, .ref (q 0 0)), (2, .ref (q6 0)), (3, .int (nI i))]) (kk : ∀ (C : Nat → Bun) (N : Nat → Lon) (S : Bun) (J : Lon) (H : Heap) (locs : List Loc), Inv C N S J → Wd g.1 A s.heap (wC g q (C, N) ++ wM g q6 (S, J)) H locs → W p l e room_1 s m args below meth c H locs 244 4135 Q (F0 m 1442 ls [])) : W p l e room_1 s m args below meth c H locs 244 4135 Q (F0 m 1032 ls []) := by
  obtain ⟨hx, hb, -, hown, hts⟩ := id hC
  have hi1 : vp_in (nI i + (1 : Int32)) L := by rw [show (nI i + (1 : Int32)) = nI (i + 1) from nI_add i 1]; exact vp_in_nI (by omega) (by omega)
  have hi2 : vp_in (nI i + (2 : Int32)) L := by rw [show (nI i + (2 : Int32)) = nI (i + 2) from nI_add i 2]; exact vp_in_nI (by omega) (by omega)
  have hi3 : vp_in (nI i + (3 : Int32)) L := by rw [show (nI i + (3 : Int32)) = nI (i + 3) from nI_add i 3]; exact vp_in_nI (by omega) (by omega)
  have hi4 : vp_in (nI i + (4 : Int32)) L := by rw [show (nI i + (4 : Int32)) = nI (i + 4) from nI_add i 4]; exact vp_in_nI (by omega) (by omega)
  have hi5 : vp_in (nI i + (5 : Int32)) L := by rw [show (nI i + (5 : Int32)) = nI (i + 5) from nI_add i 5]; exact vp_in_nI (by omega) (by omega)
  have hi6 : vp_in (nI i + (6 : Int32)) L := by rw [show (nI i + (6 : Int32)) = nI (i + 6) from nI_add i 6]; exact vp_in_nI (by omega) (by omega)
  refine lv_aload_n hx hb dL_law_1032 rfl (lv_at hl 1 rfl) ?_
  have h := ho C N S J  hI
  refine lcalli (w1 := (fun u9 => wC g q u9 ++ wM g q6 (S, J))) (va_runV (As := []) (rest := []) hC (kX5_wipe l g aK aV q H.size C N  _ h) (cwV 0 hts gL_law_X5_wipe rfl rfl rfl (by decide +kernel) ⟨Nat.le_of_ble_eq_true rfl, Nat.le_of_ble_eq_true rfl⟩) (mpreV (E5_ok aK aV) hK hE hA hw sLC1 0 rfl rfl) rfl rfl hl.1 rfl (lv_room (Nat.le_of_ble_eq_true rfl)) dL_law_1033 ⟨Nat.le_of_ble_eq_true rfl, Nat.le_of_ble_eq_true rfl⟩) hA hw sLC1 (fun u9 => sLC u9) (fun r1 u2 H locs h hw => ?_)
  obtain ⟨C1, N1⟩ := u2
  obtain ⟨hu, h⟩ := h
  replace hu : N = N1 := hu.symm
  subst hu
  refine lv_aload_n hx hb dL_law_1036 rfl (lv_at hl 2 rfl) ?_
  refine lcalli (w1 := (fun u9 => wC g q (C1, N) ++ wM g q6 u9)) (va_runV (As := []) (rest := [.int r1]) hC (kX6_wipe l g q6 H.size S J  _ h) (cwV 0 hts gL_law_X6_wipe rfl rfl rfl (by decide +kernel) ⟨Nat.le_of_ble_eq_true rfl, Nat.le_of_ble_eq_true rfl⟩) (mpreV E0_ok hK trivial hA hw sLM1 0 rfl rfl) rfl rfl hl.1 rfl (lv_room (Nat.le_of_ble_eq_true rfl)) dL_law_1037 ⟨Nat.le_of_ble_eq_true rfl, Nat.le_of_ble_eq_true rfl⟩) hA hw sLM1 (fun u9 => sLM u9) (fun r3 u4 H locs h hw => ?_)
  obtain ⟨S1, J1⟩ := u4
  obtain ⟨hu, h⟩ := h
  replace hu : J = J1 := hu.symm
  subst hu
  refine lv_icmp_eq (tgt := 1442) hx hb dL_law_1040 (by decide) (fun c => ?_) (fun c => absurd h.1 c)
  exact kk C1 N S1 J _ _ h.2 hw
set_option maxRecDepth 100000 in
set_option maxHeartbeats 4000000 in
theorem law_parish {p : Program} {l : Launch} {e : Env} {s : State} {m : MethodId} {args : Array Value} {below : List Frame} {meth : Method} {c : Code} {A : Nat → Prop} {Q : State → Prop} {g : Gl} {aK aV : Nat → Nat} {q : Nat → Nat → Nat} {q6 : Nat → Nat} {b L i : Nat} {xs : Nat → Int32} {Inv : (Nat → Bun) → (Nat → Lon) → Bun → Lon → Prop} {C : Nat → Bun} {N : Nat → Lon} {S : Bun} {J : Lon} {H : Heap} {locs : List Loc} {ls : Array Slot} (hC : CallFix p m c cL_law 4 s args wsL_law RL) (hA : ∀ q : Nat, s.heap.size ≤ q → A q) (hK : va_K g.1 vwCl (tysG g.2) s) (hE : E5 aK aV A s) (hX : va_X b L xs s s.heap) (hbl : b < s.heap.size) (hbA : ¬ A b) (hi : i + 7 ≤ L) (hL : L ≤ 448) (ho : lo_parish Inv) (hI : Inv C N S J) (hw : Wd g.1 A s.heap (wC g q (C, N) ++ wM g q6 (S, J)) H locs) (hl : lv_has ls 4 [(0, .ref b), (1, .ref (q 0 0)), (2, .ref (q6 0)), (3, .int (nI i))]) (kk : ∀ (C : Nat → Bun) (N : Nat → Lon) (S : Bun) (J : Lon) (H : Heap) (locs : List Loc), Inv C N S J → Wd g.1 A s.heap (wC g q (C, N) ++ wM g q6 (S, J)) H locs → W p l e room_1 s m args below meth c H locs 244 4135 Q (F0 m 1442 ls [])) : W p l e room_1 s m args below meth c H locs 244 4135 Q (F0 m 1045 ls []) := by
  obtain ⟨hx, hb, -, hown, hts⟩ := id hC
  have hi1 : vp_in (nI i + (1 : Int32)) L := by rw [show (nI i + (1 : Int32)) = nI (i + 1) from nI_add i 1]; exact vp_in_nI (by omega) (by omega)
  have hi2 : vp_in (nI i + (2 : Int32)) L := by rw [show (nI i + (2 : Int32)) = nI (i + 2) from nI_add i 2]; exact vp_in_nI (by omega) (by omega)
  have hi3 : vp_in (nI i + (3 : Int32)) L := by rw [show (nI i + (3 : Int32)) = nI (i + 3) from nI_add i 3]; exact vp_in_nI (by omega) (by omega)
  have hi4 : vp_in (nI i + (4 : Int32)) L := by rw [show (nI i + (4 : Int32)) = nI (i + 4) from nI_add i 4]; exact vp_in_nI (by omega) (by omega)
  have hi5 : vp_in (nI i + (5 : Int32)) L := by rw [show (nI i + (5 : Int32)) = nI (i + 5) from nI_add i 5]; exact vp_in_nI (by omega) (by omega)
  have hi6 : vp_in (nI i + (6 : Int32)) L := by rw [show (nI i + (6 : Int32)) = nI (i + 6) from nI_add i 6]; exact vp_in_nI (by omega) (by omega)
  refine lv_aload_n hx hb dL_law_1045 rfl (lv_at hl 1 rfl) ?_
  have h := ho C N S J  hI
  refine lcalli (w1 := (fun u9 => wC g q u9 ++ wM g q6 (S, J))) (va_runV (As := []) (rest := []) hC (kX5_parish l g aK aV q H.size C N  _ h) (cwV 0 hts gL_law_X5_parish rfl rfl rfl (by decide +kernel) ⟨Nat.le_of_ble_eq_true rfl, Nat.le_of_ble_eq_true rfl⟩) (mpreV (E5_ok aK aV) hK hE hA hw sLC1 0 rfl rfl) rfl rfl hl.1 rfl (lv_room (Nat.le_of_ble_eq_true rfl)) dL_law_1046 ⟨Nat.le_of_ble_eq_true rfl, Nat.le_of_ble_eq_true rfl⟩) hA hw sLC1 (fun u9 => sLC u9) (fun r1 u2 H locs h hw => ?_)
  obtain ⟨C1, N1⟩ := u2
  obtain ⟨hu, h⟩ := h
  replace hu : N = N1 := hu.symm
  subst hu
  refine lv_aload_n hx hb dL_law_1049 rfl (lv_at hl 2 rfl) ?_
  refine lcalli (w1 := (fun u9 => wC g q (C1, N) ++ wM g q6 u9)) (va_runV (As := []) (rest := [.int r1]) hC (kX6_parish l g q6 H.size S J  _ h) (cwV 0 hts gL_law_X6_parish rfl rfl rfl (by decide +kernel) ⟨Nat.le_of_ble_eq_true rfl, Nat.le_of_ble_eq_true rfl⟩) (mpreV E0_ok hK trivial hA hw sLM1 0 rfl rfl) rfl rfl hl.1 rfl (lv_room (Nat.le_of_ble_eq_true rfl)) dL_law_1050 ⟨Nat.le_of_ble_eq_true rfl, Nat.le_of_ble_eq_true rfl⟩) hA hw sLM1 (fun u9 => sLM u9) (fun r3 u4 H locs h hw => ?_)
  obtain ⟨S1, J1⟩ := u4
  obtain ⟨hu, h⟩ := h
  replace hu : J = J1 := hu.symm
  subst hu
  refine lv_icmp_eq (tgt := 1442) hx hb dL_law_1053 (by decide) (fun c => ?_) (fun c => absurd h.1 c)
  exact kk C1 N S1 J _ _ h.2 hw
set_option maxRecDepth 100000 in
set_option maxHeartbeats 4000000 in
theorem law_sheet {p : Program} {l : Launch} {e : Env} {s : State} {m : MethodId} {args : Array Value} {below : List Frame} {meth : Method} {c : Code} {A : Nat → Prop} {Q : State → Prop} {g : Gl} {aK aV : Nat → Nat} {q : Nat → Nat → Nat} {q6 : Nat → Nat} {b L i : Nat} {xs : Nat → Int32} {Inv : (Nat → Bun) → (Nat → Lon) → Bun → Lon → Prop} {C : Nat → Bun} {N : Nat → Lon} {S : Bun} {J : Lon} {H : Heap} {locs : List Loc} {ls : Array Slot} (hC : CallFix p m c cL_law 4 s args wsL_law RL) (hA : ∀ q : Nat, s.heap.size ≤ q → A q) (hK : va_K g.1 vwCl (tysG g.2) s) (hE : E5 aK aV A s) (hX : va_X b L xs s s.heap) (hbl : b < s.heap.size) (hbA : ¬ A b) (hi : i + 7 ≤ L) (hL : L ≤ 448) (ho : lo_sheet Inv) (hI : Inv C N S J) (hw : Wd g.1 A s.heap (wC g q (C, N) ++ wM g q6 (S, J)) H locs) (hl : lv_has ls 4 [(0, .ref b), (1, .ref (q 0 0)), (2, .ref (q6 0)), (3, .int (nI i))]) (kk : ∀ (C : Nat → Bun) (N : Nat → Lon) (S : Bun) (J : Lon) (H : Heap) (locs : List Loc), Inv C N S J → Wd g.1 A s.heap (wC g q (C, N) ++ wM g q6 (S, J)) H locs → W p l e room_1 s m args below meth c H locs 244 4135 Q (F0 m 1442 ls [])) : W p l e room_1 s m args below meth c H locs 244 4135 Q (F0 m 1058 ls []) := by
  obtain ⟨hx, hb, -, hown, hts⟩ := id hC
  have hi1 : vp_in (nI i + (1 : Int32)) L := by rw [show (nI i + (1 : Int32)) = nI (i + 1) from nI_add i 1]; exact vp_in_nI (by omega) (by omega)
  have hi2 : vp_in (nI i + (2 : Int32)) L := by rw [show (nI i + (2 : Int32)) = nI (i + 2) from nI_add i 2]; exact vp_in_nI (by omega) (by omega)
  have hi3 : vp_in (nI i + (3 : Int32)) L := by rw [show (nI i + (3 : Int32)) = nI (i + 3) from nI_add i 3]; exact vp_in_nI (by omega) (by omega)
  have hi4 : vp_in (nI i + (4 : Int32)) L := by rw [show (nI i + (4 : Int32)) = nI (i + 4) from nI_add i 4]; exact vp_in_nI (by omega) (by omega)
  have hi5 : vp_in (nI i + (5 : Int32)) L := by rw [show (nI i + (5 : Int32)) = nI (i + 5) from nI_add i 5]; exact vp_in_nI (by omega) (by omega)
  have hi6 : vp_in (nI i + (6 : Int32)) L := by rw [show (nI i + (6 : Int32)) = nI (i + 6) from nI_add i 6]; exact vp_in_nI (by omega) (by omega)
  refine lv_aload_n hx hb dL_law_1058 rfl (lv_at hl 1 rfl) ?_
  refine lv_aload_n hx hb dL_law_1059 rfl (lv_at hl 0 rfl) ?_
  refine lv_iload_n hx hb dL_law_1060 rfl (lv_at hl 3 rfl) ?_
  refine lv_iconst (v := (1 : Int32)) hx hb dL_law_1061 (by decide) ?_
  refine lv_iadd hx hb dL_law_1062 ?_
  refine va_sld hx hb hX hbl hbA hw.2.2 hi1 dL_law_1063 ?_
  refine lv_aload_n hx hb dL_law_1064 rfl (lv_at hl 0 rfl) ?_
  refine lv_iload_n hx hb dL_law_1065 rfl (lv_at hl 3 rfl) ?_
  refine lv_iconst (v := (2 : Int32)) hx hb dL_law_1066 (by decide) ?_
  refine lv_iadd hx hb dL_law_1067 ?_
  refine va_sld hx hb hX hbl hbA hw.2.2 hi2 dL_law_1068 ?_
  refine lv_aload_n hx hb dL_law_1069 rfl (lv_at hl 0 rfl) ?_
  refine lv_iload_n hx hb dL_law_1070 rfl (lv_at hl 3 rfl) ?_
  refine lv_iconst (v := (3 : Int32)) hx hb dL_law_1071 (by decide) ?_
  refine lv_iadd hx hb dL_law_1072 ?_
  refine va_sld hx hb hX hbl hbA hw.2.2 hi3 dL_law_1073 ?_
  have h := ho C N S J (xs ((nI i) + (1 : Int32)).toNatClampNeg) (xs ((nI i) + (2 : Int32)).toNatClampNeg) (xs ((nI i) + (3 : Int32)).toNatClampNeg) hI
  refine lcalli (w1 := (fun u9 => wC g q u9 ++ wM g q6 (S, J))) (va_runV (As := [.int (xs ((nI i) + (1 : Int32)).toNatClampNeg), .int (xs ((nI i) + (2 : Int32)).toNatClampNeg), .int (xs ((nI i) + (3 : Int32)).toNatClampNeg)]) (rest := []) hC (kX5_sheet l g aK aV q H.size C N (xs ((nI i) + (1 : Int32)).toNatClampNeg) (xs ((nI i) + (2 : Int32)).toNatClampNeg) (xs ((nI i) + (3 : Int32)).toNatClampNeg) _ h) (cwV 3 hts gL_law_X5_sheet rfl rfl rfl (by decide +kernel) ⟨Nat.le_of_ble_eq_true rfl, Nat.le_of_ble_eq_true rfl⟩) (mpreV (E5_ok aK aV) hK hE hA hw sLC1 0 rfl rfl) rfl rfl hl.1 rfl (lv_room (Nat.le_of_ble_eq_true rfl)) dL_law_1074 ⟨Nat.le_of_ble_eq_true rfl, Nat.le_of_ble_eq_true rfl⟩) hA hw sLC1 (fun u9 => sLC u9) (fun r1 u2 H locs h hw => ?_)
  obtain ⟨C1, N1⟩ := u2
  refine lv_aload_n hx hb dL_law_1077 rfl (lv_at hl 2 rfl) ?_
  refine lv_aload_n hx hb dL_law_1078 rfl (lv_at hl 0 rfl) ?_
  refine lv_iload_n hx hb dL_law_1079 rfl (lv_at hl 3 rfl) ?_
  refine lv_iconst (v := (1 : Int32)) hx hb dL_law_1080 (by decide) ?_
  refine lv_iadd hx hb dL_law_1081 ?_
  refine va_sld hx hb hX hbl hbA hw.2.2 hi1 dL_law_1082 ?_
  refine lv_aload_n hx hb dL_law_1083 rfl (lv_at hl 0 rfl) ?_
  refine lv_iload_n hx hb dL_law_1084 rfl (lv_at hl 3 rfl) ?_
  refine lv_iconst (v := (2 : Int32)) hx hb dL_law_1085 (by decide) ?_
  refine lv_iadd hx hb dL_law_1086 ?_
  refine va_sld hx hb hX hbl hbA hw.2.2 hi2 dL_law_1087 ?_
  refine lv_aload_n hx hb dL_law_1088 rfl (lv_at hl 0 rfl) ?_
  refine lv_iload_n hx hb dL_law_1089 rfl (lv_at hl 3 rfl) ?_
  refine lv_iconst (v := (3 : Int32)) hx hb dL_law_1090 (by decide) ?_
  refine lv_iadd hx hb dL_law_1091 ?_
  refine va_sld hx hb hX hbl hbA hw.2.2 hi3 dL_law_1092 ?_
  refine lcalli (w1 := (fun u9 => wC g q (C1, N1) ++ wM g q6 u9)) (va_runV (As := [.int (xs ((nI i) + (1 : Int32)).toNatClampNeg), .int (xs ((nI i) + (2 : Int32)).toNatClampNeg), .int (xs ((nI i) + (3 : Int32)).toNatClampNeg)]) (rest := [.int r1]) hC (kX6_sheet l g q6 H.size S J (xs ((nI i) + (1 : Int32)).toNatClampNeg) (xs ((nI i) + (2 : Int32)).toNatClampNeg) (xs ((nI i) + (3 : Int32)).toNatClampNeg) _ h) (cwV 3 hts gL_law_X6_sheet rfl rfl rfl (by decide +kernel) ⟨Nat.le_of_ble_eq_true rfl, Nat.le_of_ble_eq_true rfl⟩) (mpreV E0_ok hK trivial hA hw sLM1 0 rfl rfl) rfl rfl hl.1 rfl (lv_room (Nat.le_of_ble_eq_true rfl)) dL_law_1093 ⟨Nat.le_of_ble_eq_true rfl, Nat.le_of_ble_eq_true rfl⟩) hA hw sLM1 (fun u9 => sLM u9) (fun r3 u4 H locs h hw => ?_)
  obtain ⟨S1, J1⟩ := u4
  refine lv_icmp_eq (tgt := 1442) hx hb dL_law_1096 (by decide) (fun c => ?_) (fun c => absurd h.1 c)
  exact kk C1 N1 S1 J1 _ _ h.2 hw
set_option maxRecDepth 100000 in
set_option maxHeartbeats 4000000 in
theorem law_write {p : Program} {l : Launch} {e : Env} {s : State} {m : MethodId} {args : Array Value} {below : List Frame} {meth : Method} {c : Code} {A : Nat → Prop} {Q : State → Prop} {g : Gl} {aK aV : Nat → Nat} {q : Nat → Nat → Nat} {q6 : Nat → Nat} {b L i : Nat} {xs : Nat → Int32} {Inv : (Nat → Bun) → (Nat → Lon) → Bun → Lon → Prop} {C : Nat → Bun} {N : Nat → Lon} {S : Bun} {J : Lon} {H : Heap} {locs : List Loc} {ls : Array Slot} (hC : CallFix p m c cL_law 4 s args wsL_law RL) (hA : ∀ q : Nat, s.heap.size ≤ q → A q) (hK : va_K g.1 vwCl (tysG g.2) s) (hE : E5 aK aV A s) (hX : va_X b L xs s s.heap) (hbl : b < s.heap.size) (hbA : ¬ A b) (hi : i + 7 ≤ L) (hL : L ≤ 448) (ho : lo_write Inv) (hI : Inv C N S J) (hw : Wd g.1 A s.heap (wC g q (C, N) ++ wM g q6 (S, J)) H locs) (hl : lv_has ls 4 [(0, .ref b), (1, .ref (q 0 0)), (2, .ref (q6 0)), (3, .int (nI i))]) (kk : ∀ (C : Nat → Bun) (N : Nat → Lon) (S : Bun) (J : Lon) (H : Heap) (locs : List Loc), Inv C N S J → Wd g.1 A s.heap (wC g q (C, N) ++ wM g q6 (S, J)) H locs → W p l e room_1 s m args below meth c H locs 244 4135 Q (F0 m 1442 ls [])) : W p l e room_1 s m args below meth c H locs 244 4135 Q (F0 m 1101 ls []) := by
  obtain ⟨hx, hb, -, hown, hts⟩ := id hC
  have hi1 : vp_in (nI i + (1 : Int32)) L := by rw [show (nI i + (1 : Int32)) = nI (i + 1) from nI_add i 1]; exact vp_in_nI (by omega) (by omega)
  have hi2 : vp_in (nI i + (2 : Int32)) L := by rw [show (nI i + (2 : Int32)) = nI (i + 2) from nI_add i 2]; exact vp_in_nI (by omega) (by omega)
  have hi3 : vp_in (nI i + (3 : Int32)) L := by rw [show (nI i + (3 : Int32)) = nI (i + 3) from nI_add i 3]; exact vp_in_nI (by omega) (by omega)
  have hi4 : vp_in (nI i + (4 : Int32)) L := by rw [show (nI i + (4 : Int32)) = nI (i + 4) from nI_add i 4]; exact vp_in_nI (by omega) (by omega)
  have hi5 : vp_in (nI i + (5 : Int32)) L := by rw [show (nI i + (5 : Int32)) = nI (i + 5) from nI_add i 5]; exact vp_in_nI (by omega) (by omega)
  have hi6 : vp_in (nI i + (6 : Int32)) L := by rw [show (nI i + (6 : Int32)) = nI (i + 6) from nI_add i 6]; exact vp_in_nI (by omega) (by omega)
  refine lv_aload_n hx hb dL_law_1101 rfl (lv_at hl 1 rfl) ?_
  refine lv_aload_n hx hb dL_law_1102 rfl (lv_at hl 0 rfl) ?_
  refine lv_iload_n hx hb dL_law_1103 rfl (lv_at hl 3 rfl) ?_
  refine lv_iconst (v := (1 : Int32)) hx hb dL_law_1104 (by decide) ?_
  refine lv_iadd hx hb dL_law_1105 ?_
  refine va_sld hx hb hX hbl hbA hw.2.2 hi1 dL_law_1106 ?_
  refine lv_aload_n hx hb dL_law_1107 rfl (lv_at hl 0 rfl) ?_
  refine lv_iload_n hx hb dL_law_1108 rfl (lv_at hl 3 rfl) ?_
  refine lv_iconst (v := (2 : Int32)) hx hb dL_law_1109 (by decide) ?_
  refine lv_iadd hx hb dL_law_1110 ?_
  refine va_sld hx hb hX hbl hbA hw.2.2 hi2 dL_law_1111 ?_
  refine lv_aload_n hx hb dL_law_1112 rfl (lv_at hl 0 rfl) ?_
  refine lv_iload_n hx hb dL_law_1113 rfl (lv_at hl 3 rfl) ?_
  refine lv_iconst (v := (3 : Int32)) hx hb dL_law_1114 (by decide) ?_
  refine lv_iadd hx hb dL_law_1115 ?_
  refine va_sld hx hb hX hbl hbA hw.2.2 hi3 dL_law_1116 ?_
  refine lv_i2l (v := (xs ((nI i) + (3 : Int32)).toNatClampNeg).toInt64) hx hb dL_law_1117 rfl ?_
  refine lv_bipush (v := (32 : Int32)) hx hb dL_law_1118 (by decide) ?_
  refine lv_lshl (v := ((xs ((nI i) + (3 : Int32)).toNatClampNeg).toInt64) <<< ((32 : Int32).toInt64 &&& 63)) hx hb dL_law_1120 rfl ?_
  refine lv_aload_n hx hb dL_law_1121 rfl (lv_at hl 0 rfl) ?_
  refine lv_iload_n hx hb dL_law_1122 rfl (lv_at hl 3 rfl) ?_
  refine lv_iconst (v := (4 : Int32)) hx hb dL_law_1123 (by decide) ?_
  refine lv_iadd hx hb dL_law_1124 ?_
  refine va_sld hx hb hX hbl hbA hw.2.2 hi4 dL_law_1125 ?_
  refine lv_i2l (v := (xs ((nI i) + (4 : Int32)).toNatClampNeg).toInt64) hx hb dL_law_1126 rfl ?_
  refine lv_ldc2 (v := (4294967295 : Int64)) hx hb hown (hts (.constantLong RL 127 (4294967295)) (List.mem_of_getElem? (i := 6) rfl)) dL_law_1127 ?_
  refine lv_land hx hb dL_law_1130 ?_
  refine lv_lor hx hb dL_law_1131 ?_
  have h := ho C N S J (xs ((nI i) + (1 : Int32)).toNatClampNeg) (xs ((nI i) + (2 : Int32)).toNatClampNeg) ((((xs ((nI i) + (3 : Int32)).toNatClampNeg).toInt64) <<< ((32 : Int32).toInt64 &&& 63)) ||| (((xs ((nI i) + (4 : Int32)).toNatClampNeg).toInt64) &&& (4294967295 : Int64))) hI
  refine lcalll (w1 := (fun u9 => wC g q u9 ++ wM g q6 (S, J))) (va_runV (As := [.int (xs ((nI i) + (1 : Int32)).toNatClampNeg), .int (xs ((nI i) + (2 : Int32)).toNatClampNeg), .long ((((xs ((nI i) + (3 : Int32)).toNatClampNeg).toInt64) <<< ((32 : Int32).toInt64 &&& 63)) ||| (((xs ((nI i) + (4 : Int32)).toNatClampNeg).toInt64) &&& (4294967295 : Int64)))]) (rest := []) hC (kX5_write l g aK aV q H.size C N (xs ((nI i) + (1 : Int32)).toNatClampNeg) (xs ((nI i) + (2 : Int32)).toNatClampNeg) ((((xs ((nI i) + (3 : Int32)).toNatClampNeg).toInt64) <<< ((32 : Int32).toInt64 &&& 63)) ||| (((xs ((nI i) + (4 : Int32)).toNatClampNeg).toInt64) &&& (4294967295 : Int64))) _ h) (cwV 3 hts gL_law_X5_write rfl rfl rfl (by decide +kernel) ⟨Nat.le_of_ble_eq_true rfl, Nat.le_of_ble_eq_true rfl⟩) (mpreV (E5_ok aK aV) hK hE hA hw sLC1 0 rfl rfl) rfl rfl hl.1 rfl (lv_room (Nat.le_of_ble_eq_true rfl)) dL_law_1132 ⟨Nat.le_of_ble_eq_true rfl, Nat.le_of_ble_eq_true rfl⟩) hA hw sLC1 (fun u9 => sLC u9) (fun r1 u2 H locs h hw => ?_)
  obtain ⟨C1, N1⟩ := u2
  refine lv_aload_n hx hb dL_law_1135 rfl (lv_at hl 2 rfl) ?_
  refine lv_aload_n hx hb dL_law_1136 rfl (lv_at hl 0 rfl) ?_
  refine lv_iload_n hx hb dL_law_1137 rfl (lv_at hl 3 rfl) ?_
  refine lv_iconst (v := (1 : Int32)) hx hb dL_law_1138 (by decide) ?_
  refine lv_iadd hx hb dL_law_1139 ?_
  refine va_sld hx hb hX hbl hbA hw.2.2 hi1 dL_law_1140 ?_
  refine lv_aload_n hx hb dL_law_1141 rfl (lv_at hl 0 rfl) ?_
  refine lv_iload_n hx hb dL_law_1142 rfl (lv_at hl 3 rfl) ?_
  refine lv_iconst (v := (2 : Int32)) hx hb dL_law_1143 (by decide) ?_
  refine lv_iadd hx hb dL_law_1144 ?_
  refine va_sld hx hb hX hbl hbA hw.2.2 hi2 dL_law_1145 ?_
  refine lv_aload_n hx hb dL_law_1146 rfl (lv_at hl 0 rfl) ?_
  refine lv_iload_n hx hb dL_law_1147 rfl (lv_at hl 3 rfl) ?_
  refine lv_iconst (v := (3 : Int32)) hx hb dL_law_1148 (by decide) ?_
  refine lv_iadd hx hb dL_law_1149 ?_
  refine va_sld hx hb hX hbl hbA hw.2.2 hi3 dL_law_1150 ?_
  refine lv_i2l (v := (xs ((nI i) + (3 : Int32)).toNatClampNeg).toInt64) hx hb dL_law_1151 rfl ?_
  refine lv_bipush (v := (32 : Int32)) hx hb dL_law_1152 (by decide) ?_
  refine lv_lshl (v := ((xs ((nI i) + (3 : Int32)).toNatClampNeg).toInt64) <<< ((32 : Int32).toInt64 &&& 63)) hx hb dL_law_1154 rfl ?_
  refine lv_aload_n hx hb dL_law_1155 rfl (lv_at hl 0 rfl) ?_
  refine lv_iload_n hx hb dL_law_1156 rfl (lv_at hl 3 rfl) ?_
  refine lv_iconst (v := (4 : Int32)) hx hb dL_law_1157 (by decide) ?_
  refine lv_iadd hx hb dL_law_1158 ?_
  refine va_sld hx hb hX hbl hbA hw.2.2 hi4 dL_law_1159 ?_
  refine lv_i2l (v := (xs ((nI i) + (4 : Int32)).toNatClampNeg).toInt64) hx hb dL_law_1160 rfl ?_
  refine lv_ldc2 (v := (4294967295 : Int64)) hx hb hown (hts (.constantLong RL 127 (4294967295)) (List.mem_of_getElem? (i := 6) rfl)) dL_law_1161 ?_
  refine lv_land hx hb dL_law_1164 ?_
  refine lv_lor hx hb dL_law_1165 ?_
  refine lcalll (w1 := (fun u9 => wC g q (C1, N1) ++ wM g q6 u9)) (va_runV (As := [.int (xs ((nI i) + (1 : Int32)).toNatClampNeg), .int (xs ((nI i) + (2 : Int32)).toNatClampNeg), .long ((((xs ((nI i) + (3 : Int32)).toNatClampNeg).toInt64) <<< ((32 : Int32).toInt64 &&& 63)) ||| (((xs ((nI i) + (4 : Int32)).toNatClampNeg).toInt64) &&& (4294967295 : Int64)))]) (rest := [.long r1]) hC (kX6_write l g q6 H.size S J (xs ((nI i) + (1 : Int32)).toNatClampNeg) (xs ((nI i) + (2 : Int32)).toNatClampNeg) ((((xs ((nI i) + (3 : Int32)).toNatClampNeg).toInt64) <<< ((32 : Int32).toInt64 &&& 63)) ||| (((xs ((nI i) + (4 : Int32)).toNatClampNeg).toInt64) &&& (4294967295 : Int64))) _ h) (cwV 3 hts gL_law_X6_write rfl rfl rfl (by decide +kernel) ⟨Nat.le_of_ble_eq_true rfl, Nat.le_of_ble_eq_true rfl⟩) (mpreV E0_ok hK trivial hA hw sLM1 0 rfl rfl) rfl rfl hl.1 rfl (lv_room (Nat.le_of_ble_eq_true rfl)) dL_law_1166 ⟨Nat.le_of_ble_eq_true rfl, Nat.le_of_ble_eq_true rfl⟩) hA hw sLM1 (fun u9 => sLM u9) (fun r3 u4 H locs h hw => ?_)
  obtain ⟨S1, J1⟩ := u4
  refine W.lcmp hx hb dL_law_1169 ?_
  refine lv_if_eq (tgt := 1442) hx hb dL_law_1170 (by decide) (fun c => ?_) (fun c => absurd (by rw [h.1]; exact lg_self _) c)
  exact kk C1 N1 S1 J1 _ _ h.2 hw
set_option maxRecDepth 100000 in
set_option maxHeartbeats 4000000 in
theorem law_copy {p : Program} {l : Launch} {e : Env} {s : State} {m : MethodId} {args : Array Value} {below : List Frame} {meth : Method} {c : Code} {A : Nat → Prop} {Q : State → Prop} {g : Gl} {aK aV : Nat → Nat} {q : Nat → Nat → Nat} {q6 : Nat → Nat} {b L i : Nat} {xs : Nat → Int32} {Inv : (Nat → Bun) → (Nat → Lon) → Bun → Lon → Prop} {C : Nat → Bun} {N : Nat → Lon} {S : Bun} {J : Lon} {H : Heap} {locs : List Loc} {ls : Array Slot} (hC : CallFix p m c cL_law 4 s args wsL_law RL) (hA : ∀ q : Nat, s.heap.size ≤ q → A q) (hK : va_K g.1 vwCl (tysG g.2) s) (hE : E5 aK aV A s) (hX : va_X b L xs s s.heap) (hbl : b < s.heap.size) (hbA : ¬ A b) (hi : i + 7 ≤ L) (hL : L ≤ 448) (ho : lo_copy Inv) (hI : Inv C N S J) (hw : Wd g.1 A s.heap (wC g q (C, N) ++ wM g q6 (S, J)) H locs) (hl : lv_has ls 4 [(0, .ref b), (1, .ref (q 0 0)), (2, .ref (q6 0)), (3, .int (nI i))]) (kk : ∀ (C : Nat → Bun) (N : Nat → Lon) (S : Bun) (J : Lon) (H : Heap) (locs : List Loc), Inv C N S J → Wd g.1 A s.heap (wC g q (C, N) ++ wM g q6 (S, J)) H locs → W p l e room_1 s m args below meth c H locs 244 4135 Q (F0 m 1442 ls [])) : W p l e room_1 s m args below meth c H locs 244 4135 Q (F0 m 1175 ls []) := by
  obtain ⟨hx, hb, -, hown, hts⟩ := id hC
  have hi1 : vp_in (nI i + (1 : Int32)) L := by rw [show (nI i + (1 : Int32)) = nI (i + 1) from nI_add i 1]; exact vp_in_nI (by omega) (by omega)
  have hi2 : vp_in (nI i + (2 : Int32)) L := by rw [show (nI i + (2 : Int32)) = nI (i + 2) from nI_add i 2]; exact vp_in_nI (by omega) (by omega)
  have hi3 : vp_in (nI i + (3 : Int32)) L := by rw [show (nI i + (3 : Int32)) = nI (i + 3) from nI_add i 3]; exact vp_in_nI (by omega) (by omega)
  have hi4 : vp_in (nI i + (4 : Int32)) L := by rw [show (nI i + (4 : Int32)) = nI (i + 4) from nI_add i 4]; exact vp_in_nI (by omega) (by omega)
  have hi5 : vp_in (nI i + (5 : Int32)) L := by rw [show (nI i + (5 : Int32)) = nI (i + 5) from nI_add i 5]; exact vp_in_nI (by omega) (by omega)
  have hi6 : vp_in (nI i + (6 : Int32)) L := by rw [show (nI i + (6 : Int32)) = nI (i + 6) from nI_add i 6]; exact vp_in_nI (by omega) (by omega)
  refine lv_aload_n hx hb dL_law_1175 rfl (lv_at hl 1 rfl) ?_
  refine lv_aload_n hx hb dL_law_1176 rfl (lv_at hl 0 rfl) ?_
  refine lv_iload_n hx hb dL_law_1177 rfl (lv_at hl 3 rfl) ?_
  refine lv_iconst (v := (1 : Int32)) hx hb dL_law_1178 (by decide) ?_
  refine lv_iadd hx hb dL_law_1179 ?_
  refine va_sld hx hb hX hbl hbA hw.2.2 hi1 dL_law_1180 ?_
  refine lv_aload_n hx hb dL_law_1181 rfl (lv_at hl 0 rfl) ?_
  refine lv_iload_n hx hb dL_law_1182 rfl (lv_at hl 3 rfl) ?_
  refine lv_iconst (v := (2 : Int32)) hx hb dL_law_1183 (by decide) ?_
  refine lv_iadd hx hb dL_law_1184 ?_
  refine va_sld hx hb hX hbl hbA hw.2.2 hi2 dL_law_1185 ?_
  refine lv_aload_n hx hb dL_law_1186 rfl (lv_at hl 0 rfl) ?_
  refine lv_iload_n hx hb dL_law_1187 rfl (lv_at hl 3 rfl) ?_
  refine lv_iconst (v := (3 : Int32)) hx hb dL_law_1188 (by decide) ?_
  refine lv_iadd hx hb dL_law_1189 ?_
  refine va_sld hx hb hX hbl hbA hw.2.2 hi3 dL_law_1190 ?_
  refine lv_aload_n hx hb dL_law_1191 rfl (lv_at hl 0 rfl) ?_
  refine lv_iload_n hx hb dL_law_1192 rfl (lv_at hl 3 rfl) ?_
  refine lv_iconst (v := (4 : Int32)) hx hb dL_law_1193 (by decide) ?_
  refine lv_iadd hx hb dL_law_1194 ?_
  refine va_sld hx hb hX hbl hbA hw.2.2 hi4 dL_law_1195 ?_
  refine lv_aload_n hx hb dL_law_1196 rfl (lv_at hl 0 rfl) ?_
  refine lv_iload_n hx hb dL_law_1197 rfl (lv_at hl 3 rfl) ?_
  refine lv_iconst (v := (5 : Int32)) hx hb dL_law_1198 (by decide) ?_
  refine lv_iadd hx hb dL_law_1199 ?_
  refine va_sld hx hb hX hbl hbA hw.2.2 hi5 dL_law_1200 ?_
  have h := ho C N S J (xs ((nI i) + (1 : Int32)).toNatClampNeg) (xs ((nI i) + (2 : Int32)).toNatClampNeg) (xs ((nI i) + (3 : Int32)).toNatClampNeg) (xs ((nI i) + (4 : Int32)).toNatClampNeg) (xs ((nI i) + (5 : Int32)).toNatClampNeg) hI
  refine lcalli (w1 := (fun u9 => wC g q u9 ++ wM g q6 (S, J))) (va_runV (As := [.int (xs ((nI i) + (1 : Int32)).toNatClampNeg), .int (xs ((nI i) + (2 : Int32)).toNatClampNeg), .int (xs ((nI i) + (3 : Int32)).toNatClampNeg), .int (xs ((nI i) + (4 : Int32)).toNatClampNeg), .int (xs ((nI i) + (5 : Int32)).toNatClampNeg)]) (rest := []) hC (kX5_copy l g aK aV q H.size C N (xs ((nI i) + (1 : Int32)).toNatClampNeg) (xs ((nI i) + (2 : Int32)).toNatClampNeg) (xs ((nI i) + (3 : Int32)).toNatClampNeg) (xs ((nI i) + (4 : Int32)).toNatClampNeg) (xs ((nI i) + (5 : Int32)).toNatClampNeg) _ h) (cwV 5 hts gL_law_X5_copy rfl rfl rfl (by decide +kernel) ⟨Nat.le_of_ble_eq_true rfl, Nat.le_of_ble_eq_true rfl⟩) (mpreV (E5_ok aK aV) hK hE hA hw sLC1 0 rfl rfl) rfl rfl hl.1 rfl (lv_room (Nat.le_of_ble_eq_true rfl)) dL_law_1201 ⟨Nat.le_of_ble_eq_true rfl, Nat.le_of_ble_eq_true rfl⟩) hA hw sLC1 (fun u9 => sLC u9) (fun r1 u2 H locs h hw => ?_)
  obtain ⟨C1, N1⟩ := u2
  refine lv_aload_n hx hb dL_law_1204 rfl (lv_at hl 2 rfl) ?_
  refine lv_aload_n hx hb dL_law_1205 rfl (lv_at hl 0 rfl) ?_
  refine lv_iload_n hx hb dL_law_1206 rfl (lv_at hl 3 rfl) ?_
  refine lv_iconst (v := (1 : Int32)) hx hb dL_law_1207 (by decide) ?_
  refine lv_iadd hx hb dL_law_1208 ?_
  refine va_sld hx hb hX hbl hbA hw.2.2 hi1 dL_law_1209 ?_
  refine lv_aload_n hx hb dL_law_1210 rfl (lv_at hl 0 rfl) ?_
  refine lv_iload_n hx hb dL_law_1211 rfl (lv_at hl 3 rfl) ?_
  refine lv_iconst (v := (2 : Int32)) hx hb dL_law_1212 (by decide) ?_
  refine lv_iadd hx hb dL_law_1213 ?_
  refine va_sld hx hb hX hbl hbA hw.2.2 hi2 dL_law_1214 ?_
  refine lv_aload_n hx hb dL_law_1215 rfl (lv_at hl 0 rfl) ?_
  refine lv_iload_n hx hb dL_law_1216 rfl (lv_at hl 3 rfl) ?_
  refine lv_iconst (v := (3 : Int32)) hx hb dL_law_1217 (by decide) ?_
  refine lv_iadd hx hb dL_law_1218 ?_
  refine va_sld hx hb hX hbl hbA hw.2.2 hi3 dL_law_1219 ?_
  refine lv_aload_n hx hb dL_law_1220 rfl (lv_at hl 0 rfl) ?_
  refine lv_iload_n hx hb dL_law_1221 rfl (lv_at hl 3 rfl) ?_
  refine lv_iconst (v := (4 : Int32)) hx hb dL_law_1222 (by decide) ?_
  refine lv_iadd hx hb dL_law_1223 ?_
  refine va_sld hx hb hX hbl hbA hw.2.2 hi4 dL_law_1224 ?_
  refine lv_aload_n hx hb dL_law_1225 rfl (lv_at hl 0 rfl) ?_
  refine lv_iload_n hx hb dL_law_1226 rfl (lv_at hl 3 rfl) ?_
  refine lv_iconst (v := (5 : Int32)) hx hb dL_law_1227 (by decide) ?_
  refine lv_iadd hx hb dL_law_1228 ?_
  refine va_sld hx hb hX hbl hbA hw.2.2 hi5 dL_law_1229 ?_
  refine lcalli (w1 := (fun u9 => wC g q (C1, N1) ++ wM g q6 u9)) (va_runV (As := [.int (xs ((nI i) + (1 : Int32)).toNatClampNeg), .int (xs ((nI i) + (2 : Int32)).toNatClampNeg), .int (xs ((nI i) + (3 : Int32)).toNatClampNeg), .int (xs ((nI i) + (4 : Int32)).toNatClampNeg), .int (xs ((nI i) + (5 : Int32)).toNatClampNeg)]) (rest := [.int r1]) hC (kX6_copy l g q6 H.size S J (xs ((nI i) + (1 : Int32)).toNatClampNeg) (xs ((nI i) + (2 : Int32)).toNatClampNeg) (xs ((nI i) + (3 : Int32)).toNatClampNeg) (xs ((nI i) + (4 : Int32)).toNatClampNeg) (xs ((nI i) + (5 : Int32)).toNatClampNeg) _ h) (cwV 5 hts gL_law_X6_copy rfl rfl rfl (by decide +kernel) ⟨Nat.le_of_ble_eq_true rfl, Nat.le_of_ble_eq_true rfl⟩) (mpreV E0_ok hK trivial hA hw sLM1 0 rfl rfl) rfl rfl hl.1 rfl (lv_room (Nat.le_of_ble_eq_true rfl)) dL_law_1230 ⟨Nat.le_of_ble_eq_true rfl, Nat.le_of_ble_eq_true rfl⟩) hA hw sLM1 (fun u9 => sLM u9) (fun r3 u4 H locs h hw => ?_)
  obtain ⟨S1, J1⟩ := u4
  refine lv_icmp_eq (tgt := 1442) hx hb dL_law_1233 (by decide) (fun c => ?_) (fun c => absurd h.1 c)
  exact kk C1 N1 S1 J1 _ _ h.2 hw
set_option maxRecDepth 100000 in
set_option maxHeartbeats 4000000 in
theorem law_lays {p : Program} {l : Launch} {e : Env} {s : State} {m : MethodId} {args : Array Value} {below : List Frame} {meth : Method} {c : Code} {A : Nat → Prop} {Q : State → Prop} {g : Gl} {aK aV : Nat → Nat} {q : Nat → Nat → Nat} {q6 : Nat → Nat} {b L i : Nat} {xs : Nat → Int32} {Inv : (Nat → Bun) → (Nat → Lon) → Bun → Lon → Prop} {C : Nat → Bun} {N : Nat → Lon} {S : Bun} {J : Lon} {H : Heap} {locs : List Loc} {ls : Array Slot} (hC : CallFix p m c cL_law 4 s args wsL_law RL) (hA : ∀ q : Nat, s.heap.size ≤ q → A q) (hK : va_K g.1 vwCl (tysG g.2) s) (hE : E5 aK aV A s) (hX : va_X b L xs s s.heap) (hbl : b < s.heap.size) (hbA : ¬ A b) (hi : i + 7 ≤ L) (hL : L ≤ 448) (ho : lo_lays Inv) (hI : Inv C N S J) (hw : Wd g.1 A s.heap (wC g q (C, N) ++ wM g q6 (S, J)) H locs) (hl : lv_has ls 4 [(0, .ref b), (1, .ref (q 0 0)), (2, .ref (q6 0)), (3, .int (nI i))]) (kk : ∀ (C : Nat → Bun) (N : Nat → Lon) (S : Bun) (J : Lon) (H : Heap) (locs : List Loc), Inv C N S J → Wd g.1 A s.heap (wC g q (C, N) ++ wM g q6 (S, J)) H locs → W p l e room_1 s m args below meth c H locs 244 4135 Q (F0 m 1442 ls [])) : W p l e room_1 s m args below meth c H locs 244 4135 Q (F0 m 1238 ls []) := by
  obtain ⟨hx, hb, -, hown, hts⟩ := id hC
  have hi1 : vp_in (nI i + (1 : Int32)) L := by rw [show (nI i + (1 : Int32)) = nI (i + 1) from nI_add i 1]; exact vp_in_nI (by omega) (by omega)
  have hi2 : vp_in (nI i + (2 : Int32)) L := by rw [show (nI i + (2 : Int32)) = nI (i + 2) from nI_add i 2]; exact vp_in_nI (by omega) (by omega)
  have hi3 : vp_in (nI i + (3 : Int32)) L := by rw [show (nI i + (3 : Int32)) = nI (i + 3) from nI_add i 3]; exact vp_in_nI (by omega) (by omega)
  have hi4 : vp_in (nI i + (4 : Int32)) L := by rw [show (nI i + (4 : Int32)) = nI (i + 4) from nI_add i 4]; exact vp_in_nI (by omega) (by omega)
  have hi5 : vp_in (nI i + (5 : Int32)) L := by rw [show (nI i + (5 : Int32)) = nI (i + 5) from nI_add i 5]; exact vp_in_nI (by omega) (by omega)
  have hi6 : vp_in (nI i + (6 : Int32)) L := by rw [show (nI i + (6 : Int32)) = nI (i + 6) from nI_add i 6]; exact vp_in_nI (by omega) (by omega)
  refine lv_aload_n hx hb dL_law_1238 rfl (lv_at hl 1 rfl) ?_
  refine lv_aload_n hx hb dL_law_1239 rfl (lv_at hl 0 rfl) ?_
  refine lv_iload_n hx hb dL_law_1240 rfl (lv_at hl 3 rfl) ?_
  refine lv_iconst (v := (1 : Int32)) hx hb dL_law_1241 (by decide) ?_
  refine lv_iadd hx hb dL_law_1242 ?_
  refine va_sld hx hb hX hbl hbA hw.2.2 hi1 dL_law_1243 ?_
  refine lv_aload_n hx hb dL_law_1244 rfl (lv_at hl 0 rfl) ?_
  refine lv_iload_n hx hb dL_law_1245 rfl (lv_at hl 3 rfl) ?_
  refine lv_iconst (v := (2 : Int32)) hx hb dL_law_1246 (by decide) ?_
  refine lv_iadd hx hb dL_law_1247 ?_
  refine va_sld hx hb hX hbl hbA hw.2.2 hi2 dL_law_1248 ?_
  have h := ho C N S J (xs ((nI i) + (1 : Int32)).toNatClampNeg) (xs ((nI i) + (2 : Int32)).toNatClampNeg) hI
  refine lcalli (w1 := (fun u9 => wC g q u9 ++ wM g q6 (S, J))) (va_runV (As := [.int (xs ((nI i) + (1 : Int32)).toNatClampNeg), .int (xs ((nI i) + (2 : Int32)).toNatClampNeg)]) (rest := []) hC (kX5_lays l g aK aV q H.size C N (xs ((nI i) + (1 : Int32)).toNatClampNeg) (xs ((nI i) + (2 : Int32)).toNatClampNeg) _ h) (cwV 2 hts gL_law_X5_lays rfl rfl rfl (by decide +kernel) ⟨Nat.le_of_ble_eq_true rfl, Nat.le_of_ble_eq_true rfl⟩) (mpreV (E5_ok aK aV) hK hE hA hw sLC1 0 rfl rfl) rfl rfl hl.1 rfl (lv_room (Nat.le_of_ble_eq_true rfl)) dL_law_1249 ⟨Nat.le_of_ble_eq_true rfl, Nat.le_of_ble_eq_true rfl⟩) hA hw sLC1 (fun u9 => sLC u9) (fun r1 u2 H locs h hw => ?_)
  obtain ⟨C1, N1⟩ := u2
  obtain ⟨hu, h⟩ := h
  replace hu : N = N1 := hu.symm
  subst hu
  refine lv_aload_n hx hb dL_law_1252 rfl (lv_at hl 2 rfl) ?_
  refine lv_aload_n hx hb dL_law_1253 rfl (lv_at hl 0 rfl) ?_
  refine lv_iload_n hx hb dL_law_1254 rfl (lv_at hl 3 rfl) ?_
  refine lv_iconst (v := (1 : Int32)) hx hb dL_law_1255 (by decide) ?_
  refine lv_iadd hx hb dL_law_1256 ?_
  refine va_sld hx hb hX hbl hbA hw.2.2 hi1 dL_law_1257 ?_
  refine lv_aload_n hx hb dL_law_1258 rfl (lv_at hl 0 rfl) ?_
  refine lv_iload_n hx hb dL_law_1259 rfl (lv_at hl 3 rfl) ?_
  refine lv_iconst (v := (2 : Int32)) hx hb dL_law_1260 (by decide) ?_
  refine lv_iadd hx hb dL_law_1261 ?_
  refine va_sld hx hb hX hbl hbA hw.2.2 hi2 dL_law_1262 ?_
  refine lcalli (w1 := (fun u9 => wC g q (C1, N) ++ wM g q6 u9)) (va_runV (As := [.int (xs ((nI i) + (1 : Int32)).toNatClampNeg), .int (xs ((nI i) + (2 : Int32)).toNatClampNeg)]) (rest := [.int r1]) hC (kX6_lays l g q6 H.size S J (xs ((nI i) + (1 : Int32)).toNatClampNeg) (xs ((nI i) + (2 : Int32)).toNatClampNeg) _ h) (cwV 2 hts gL_law_X6_lays rfl rfl rfl (by decide +kernel) ⟨Nat.le_of_ble_eq_true rfl, Nat.le_of_ble_eq_true rfl⟩) (mpreV E0_ok hK trivial hA hw sLM1 0 rfl rfl) rfl rfl hl.1 rfl (lv_room (Nat.le_of_ble_eq_true rfl)) dL_law_1263 ⟨Nat.le_of_ble_eq_true rfl, Nat.le_of_ble_eq_true rfl⟩) hA hw sLM1 (fun u9 => sLM u9) (fun r3 u4 H locs h hw => ?_)
  obtain ⟨S1, J1⟩ := u4
  obtain ⟨hu, h⟩ := h
  replace hu : J = J1 := hu.symm
  subst hu
  refine lv_icmp_eq (tgt := 1442) hx hb dL_law_1266 (by decide) (fun c => ?_) (fun c => absurd h.1 c)
  exact kk C1 N S1 J _ _ h.2 hw
set_option maxRecDepth 100000 in
set_option maxHeartbeats 4000000 in
theorem law_draw {p : Program} {l : Launch} {e : Env} {s : State} {m : MethodId} {args : Array Value} {below : List Frame} {meth : Method} {c : Code} {A : Nat → Prop} {Q : State → Prop} {g : Gl} {aK aV : Nat → Nat} {q : Nat → Nat → Nat} {q6 : Nat → Nat} {b L i : Nat} {xs : Nat → Int32} {Inv : (Nat → Bun) → (Nat → Lon) → Bun → Lon → Prop} {C : Nat → Bun} {N : Nat → Lon} {S : Bun} {J : Lon} {H : Heap} {locs : List Loc} {ls : Array Slot} (hC : CallFix p m c cL_law 4 s args wsL_law RL) (hA : ∀ q : Nat, s.heap.size ≤ q → A q) (hK : va_K g.1 vwCl (tysG g.2) s) (hE : E5 aK aV A s) (hX : va_X b L xs s s.heap) (hbl : b < s.heap.size) (hbA : ¬ A b) (hi : i + 7 ≤ L) (hL : L ≤ 448) (ho : lo_draw Inv) (hI : Inv C N S J) (hw : Wd g.1 A s.heap (wC g q (C, N) ++ wM g q6 (S, J)) H locs) (hl : lv_has ls 4 [(0, .ref b), (1, .ref (q 0 0)), (2, .ref (q6 0)), (3, .int (nI i))]) (kk : ∀ (C : Nat → Bun) (N : Nat → Lon) (S : Bun) (J : Lon) (H : Heap) (locs : List Loc), Inv C N S J → Wd g.1 A s.heap (wC g q (C, N) ++ wM g q6 (S, J)) H locs → W p l e room_1 s m args below meth c H locs 244 4135 Q (F0 m 1442 ls [])) : W p l e room_1 s m args below meth c H locs 244 4135 Q (F0 m 1271 ls []) := by
  obtain ⟨hx, hb, -, hown, hts⟩ := id hC
  have hi1 : vp_in (nI i + (1 : Int32)) L := by rw [show (nI i + (1 : Int32)) = nI (i + 1) from nI_add i 1]; exact vp_in_nI (by omega) (by omega)
  have hi2 : vp_in (nI i + (2 : Int32)) L := by rw [show (nI i + (2 : Int32)) = nI (i + 2) from nI_add i 2]; exact vp_in_nI (by omega) (by omega)
  have hi3 : vp_in (nI i + (3 : Int32)) L := by rw [show (nI i + (3 : Int32)) = nI (i + 3) from nI_add i 3]; exact vp_in_nI (by omega) (by omega)
  have hi4 : vp_in (nI i + (4 : Int32)) L := by rw [show (nI i + (4 : Int32)) = nI (i + 4) from nI_add i 4]; exact vp_in_nI (by omega) (by omega)
  have hi5 : vp_in (nI i + (5 : Int32)) L := by rw [show (nI i + (5 : Int32)) = nI (i + 5) from nI_add i 5]; exact vp_in_nI (by omega) (by omega)
  have hi6 : vp_in (nI i + (6 : Int32)) L := by rw [show (nI i + (6 : Int32)) = nI (i + 6) from nI_add i 6]; exact vp_in_nI (by omega) (by omega)
  refine lv_aload_n hx hb dL_law_1271 rfl (lv_at hl 1 rfl) ?_
  refine lv_aload_n hx hb dL_law_1272 rfl (lv_at hl 0 rfl) ?_
  refine lv_iload_n hx hb dL_law_1273 rfl (lv_at hl 3 rfl) ?_
  refine lv_iconst (v := (1 : Int32)) hx hb dL_law_1274 (by decide) ?_
  refine lv_iadd hx hb dL_law_1275 ?_
  refine va_sld hx hb hX hbl hbA hw.2.2 hi1 dL_law_1276 ?_
  refine lv_aload_n hx hb dL_law_1277 rfl (lv_at hl 0 rfl) ?_
  refine lv_iload_n hx hb dL_law_1278 rfl (lv_at hl 3 rfl) ?_
  refine lv_iconst (v := (2 : Int32)) hx hb dL_law_1279 (by decide) ?_
  refine lv_iadd hx hb dL_law_1280 ?_
  refine va_sld hx hb hX hbl hbA hw.2.2 hi2 dL_law_1281 ?_
  refine lv_aload_n hx hb dL_law_1282 rfl (lv_at hl 0 rfl) ?_
  refine lv_iload_n hx hb dL_law_1283 rfl (lv_at hl 3 rfl) ?_
  refine lv_iconst (v := (3 : Int32)) hx hb dL_law_1284 (by decide) ?_
  refine lv_iadd hx hb dL_law_1285 ?_
  refine va_sld hx hb hX hbl hbA hw.2.2 hi3 dL_law_1286 ?_
  have h := ho C N S J (xs ((nI i) + (1 : Int32)).toNatClampNeg) (xs ((nI i) + (2 : Int32)).toNatClampNeg) (xs ((nI i) + (3 : Int32)).toNatClampNeg) hI
  refine lcalli (w1 := (fun u9 => wC g q u9 ++ wM g q6 (S, J))) (va_runV (As := [.int (xs ((nI i) + (1 : Int32)).toNatClampNeg), .int (xs ((nI i) + (2 : Int32)).toNatClampNeg), .int (xs ((nI i) + (3 : Int32)).toNatClampNeg)]) (rest := []) hC (kX5_draw l g aK aV q H.size C N (xs ((nI i) + (1 : Int32)).toNatClampNeg) (xs ((nI i) + (2 : Int32)).toNatClampNeg) (xs ((nI i) + (3 : Int32)).toNatClampNeg) _ h) (cwV 3 hts gL_law_X5_draw rfl rfl rfl (by decide +kernel) ⟨Nat.le_of_ble_eq_true rfl, Nat.le_of_ble_eq_true rfl⟩) (mpreV (E5_ok aK aV) hK hE hA hw sLC1 0 rfl rfl) rfl rfl hl.1 rfl (lv_room (Nat.le_of_ble_eq_true rfl)) dL_law_1287 ⟨Nat.le_of_ble_eq_true rfl, Nat.le_of_ble_eq_true rfl⟩) hA hw sLC1 (fun u9 => sLC u9) (fun r1 u2 H locs h hw => ?_)
  obtain ⟨C1, N1⟩ := u2
  refine lv_aload_n hx hb dL_law_1290 rfl (lv_at hl 2 rfl) ?_
  refine lv_aload_n hx hb dL_law_1291 rfl (lv_at hl 0 rfl) ?_
  refine lv_iload_n hx hb dL_law_1292 rfl (lv_at hl 3 rfl) ?_
  refine lv_iconst (v := (1 : Int32)) hx hb dL_law_1293 (by decide) ?_
  refine lv_iadd hx hb dL_law_1294 ?_
  refine va_sld hx hb hX hbl hbA hw.2.2 hi1 dL_law_1295 ?_
  refine lv_aload_n hx hb dL_law_1296 rfl (lv_at hl 0 rfl) ?_
  refine lv_iload_n hx hb dL_law_1297 rfl (lv_at hl 3 rfl) ?_
  refine lv_iconst (v := (2 : Int32)) hx hb dL_law_1298 (by decide) ?_
  refine lv_iadd hx hb dL_law_1299 ?_
  refine va_sld hx hb hX hbl hbA hw.2.2 hi2 dL_law_1300 ?_
  refine lv_aload_n hx hb dL_law_1301 rfl (lv_at hl 0 rfl) ?_
  refine lv_iload_n hx hb dL_law_1302 rfl (lv_at hl 3 rfl) ?_
  refine lv_iconst (v := (3 : Int32)) hx hb dL_law_1303 (by decide) ?_
  refine lv_iadd hx hb dL_law_1304 ?_
  refine va_sld hx hb hX hbl hbA hw.2.2 hi3 dL_law_1305 ?_
  refine lcalli (w1 := (fun u9 => wC g q (C1, N1) ++ wM g q6 u9)) (va_runV (As := [.int (xs ((nI i) + (1 : Int32)).toNatClampNeg), .int (xs ((nI i) + (2 : Int32)).toNatClampNeg), .int (xs ((nI i) + (3 : Int32)).toNatClampNeg)]) (rest := [.int r1]) hC (kX6_draw l g q6 H.size S J (xs ((nI i) + (1 : Int32)).toNatClampNeg) (xs ((nI i) + (2 : Int32)).toNatClampNeg) (xs ((nI i) + (3 : Int32)).toNatClampNeg) _ h) (cwV 3 hts gL_law_X6_draw rfl rfl rfl (by decide +kernel) ⟨Nat.le_of_ble_eq_true rfl, Nat.le_of_ble_eq_true rfl⟩) (mpreV E0_ok hK trivial hA hw sLM1 0 rfl rfl) rfl rfl hl.1 rfl (lv_room (Nat.le_of_ble_eq_true rfl)) dL_law_1306 ⟨Nat.le_of_ble_eq_true rfl, Nat.le_of_ble_eq_true rfl⟩) hA hw sLM1 (fun u9 => sLM u9) (fun r3 u4 H locs h hw => ?_)
  obtain ⟨S1, J1⟩ := u4
  refine lv_icmp_eq (tgt := 1442) hx hb dL_law_1309 (by decide) (fun c => ?_) (fun c => absurd h.1 c)
  exact kk C1 N1 S1 J1 _ _ h.2 hw
set_option maxRecDepth 100000 in
set_option maxHeartbeats 4000000 in
theorem law_read {p : Program} {l : Launch} {e : Env} {s : State} {m : MethodId} {args : Array Value} {below : List Frame} {meth : Method} {c : Code} {A : Nat → Prop} {Q : State → Prop} {g : Gl} {aK aV : Nat → Nat} {q : Nat → Nat → Nat} {q6 : Nat → Nat} {b L i : Nat} {xs : Nat → Int32} {Inv : (Nat → Bun) → (Nat → Lon) → Bun → Lon → Prop} {C : Nat → Bun} {N : Nat → Lon} {S : Bun} {J : Lon} {H : Heap} {locs : List Loc} {ls : Array Slot} (hC : CallFix p m c cL_law 4 s args wsL_law RL) (hA : ∀ q : Nat, s.heap.size ≤ q → A q) (hK : va_K g.1 vwCl (tysG g.2) s) (hE : E5 aK aV A s) (hX : va_X b L xs s s.heap) (hbl : b < s.heap.size) (hbA : ¬ A b) (hi : i + 7 ≤ L) (hL : L ≤ 448) (ho : lo_read Inv) (hI : Inv C N S J) (hw : Wd g.1 A s.heap (wC g q (C, N) ++ wM g q6 (S, J)) H locs) (hl : lv_has ls 4 [(0, .ref b), (1, .ref (q 0 0)), (2, .ref (q6 0)), (3, .int (nI i))]) (kk : ∀ (C : Nat → Bun) (N : Nat → Lon) (S : Bun) (J : Lon) (H : Heap) (locs : List Loc), Inv C N S J → Wd g.1 A s.heap (wC g q (C, N) ++ wM g q6 (S, J)) H locs → W p l e room_1 s m args below meth c H locs 244 4135 Q (F0 m 1442 ls [])) : W p l e room_1 s m args below meth c H locs 244 4135 Q (F0 m 1314 ls []) := by
  obtain ⟨hx, hb, -, hown, hts⟩ := id hC
  have hi1 : vp_in (nI i + (1 : Int32)) L := by rw [show (nI i + (1 : Int32)) = nI (i + 1) from nI_add i 1]; exact vp_in_nI (by omega) (by omega)
  have hi2 : vp_in (nI i + (2 : Int32)) L := by rw [show (nI i + (2 : Int32)) = nI (i + 2) from nI_add i 2]; exact vp_in_nI (by omega) (by omega)
  have hi3 : vp_in (nI i + (3 : Int32)) L := by rw [show (nI i + (3 : Int32)) = nI (i + 3) from nI_add i 3]; exact vp_in_nI (by omega) (by omega)
  have hi4 : vp_in (nI i + (4 : Int32)) L := by rw [show (nI i + (4 : Int32)) = nI (i + 4) from nI_add i 4]; exact vp_in_nI (by omega) (by omega)
  have hi5 : vp_in (nI i + (5 : Int32)) L := by rw [show (nI i + (5 : Int32)) = nI (i + 5) from nI_add i 5]; exact vp_in_nI (by omega) (by omega)
  have hi6 : vp_in (nI i + (6 : Int32)) L := by rw [show (nI i + (6 : Int32)) = nI (i + 6) from nI_add i 6]; exact vp_in_nI (by omega) (by omega)
  refine lv_aload_n hx hb dL_law_1314 rfl (lv_at hl 1 rfl) ?_
  refine lv_aload_n hx hb dL_law_1315 rfl (lv_at hl 0 rfl) ?_
  refine lv_iload_n hx hb dL_law_1316 rfl (lv_at hl 3 rfl) ?_
  refine lv_iconst (v := (1 : Int32)) hx hb dL_law_1317 (by decide) ?_
  refine lv_iadd hx hb dL_law_1318 ?_
  refine va_sld hx hb hX hbl hbA hw.2.2 hi1 dL_law_1319 ?_
  refine lv_aload_n hx hb dL_law_1320 rfl (lv_at hl 0 rfl) ?_
  refine lv_iload_n hx hb dL_law_1321 rfl (lv_at hl 3 rfl) ?_
  refine lv_iconst (v := (2 : Int32)) hx hb dL_law_1322 (by decide) ?_
  refine lv_iadd hx hb dL_law_1323 ?_
  refine va_sld hx hb hX hbl hbA hw.2.2 hi2 dL_law_1324 ?_
  refine lv_aload_n hx hb dL_law_1325 rfl (lv_at hl 0 rfl) ?_
  refine lv_iload_n hx hb dL_law_1326 rfl (lv_at hl 3 rfl) ?_
  refine lv_iconst (v := (3 : Int32)) hx hb dL_law_1327 (by decide) ?_
  refine lv_iadd hx hb dL_law_1328 ?_
  refine va_sld hx hb hX hbl hbA hw.2.2 hi3 dL_law_1329 ?_
  have h := ho C N S J (xs ((nI i) + (1 : Int32)).toNatClampNeg) (xs ((nI i) + (2 : Int32)).toNatClampNeg) (xs ((nI i) + (3 : Int32)).toNatClampNeg) hI
  refine lcalli (w1 := (fun u9 => wC g q u9 ++ wM g q6 (S, J))) (va_runV (As := [.int (xs ((nI i) + (1 : Int32)).toNatClampNeg), .int (xs ((nI i) + (2 : Int32)).toNatClampNeg), .int (xs ((nI i) + (3 : Int32)).toNatClampNeg)]) (rest := []) hC (kX5_read l g aK aV q H.size C N (xs ((nI i) + (1 : Int32)).toNatClampNeg) (xs ((nI i) + (2 : Int32)).toNatClampNeg) (xs ((nI i) + (3 : Int32)).toNatClampNeg) _ h) (cwV 3 hts gL_law_X5_read rfl rfl rfl (by decide +kernel) ⟨Nat.le_of_ble_eq_true rfl, Nat.le_of_ble_eq_true rfl⟩) (mpreV (E5_ok aK aV) hK hE hA hw sLC1 0 rfl rfl) rfl rfl hl.1 rfl (lv_room (Nat.le_of_ble_eq_true rfl)) dL_law_1330 ⟨Nat.le_of_ble_eq_true rfl, Nat.le_of_ble_eq_true rfl⟩) hA hw sLC1 (fun u9 => sLC u9) (fun r1 u2 H locs h hw => ?_)
  obtain ⟨C1, N1⟩ := u2
  obtain ⟨hu, h⟩ := h
  replace hu : N = N1 := hu.symm
  subst hu
  refine lv_aload_n hx hb dL_law_1333 rfl (lv_at hl 2 rfl) ?_
  refine lv_aload_n hx hb dL_law_1334 rfl (lv_at hl 0 rfl) ?_
  refine lv_iload_n hx hb dL_law_1335 rfl (lv_at hl 3 rfl) ?_
  refine lv_iconst (v := (1 : Int32)) hx hb dL_law_1336 (by decide) ?_
  refine lv_iadd hx hb dL_law_1337 ?_
  refine va_sld hx hb hX hbl hbA hw.2.2 hi1 dL_law_1338 ?_
  refine lv_aload_n hx hb dL_law_1339 rfl (lv_at hl 0 rfl) ?_
  refine lv_iload_n hx hb dL_law_1340 rfl (lv_at hl 3 rfl) ?_
  refine lv_iconst (v := (2 : Int32)) hx hb dL_law_1341 (by decide) ?_
  refine lv_iadd hx hb dL_law_1342 ?_
  refine va_sld hx hb hX hbl hbA hw.2.2 hi2 dL_law_1343 ?_
  refine lv_aload_n hx hb dL_law_1344 rfl (lv_at hl 0 rfl) ?_
  refine lv_iload_n hx hb dL_law_1345 rfl (lv_at hl 3 rfl) ?_
  refine lv_iconst (v := (3 : Int32)) hx hb dL_law_1346 (by decide) ?_
  refine lv_iadd hx hb dL_law_1347 ?_
  refine va_sld hx hb hX hbl hbA hw.2.2 hi3 dL_law_1348 ?_
  refine lcalli (w1 := (fun u9 => wC g q (C1, N) ++ wM g q6 u9)) (va_runV (As := [.int (xs ((nI i) + (1 : Int32)).toNatClampNeg), .int (xs ((nI i) + (2 : Int32)).toNatClampNeg), .int (xs ((nI i) + (3 : Int32)).toNatClampNeg)]) (rest := [.int r1]) hC (kX6_read l g q6 H.size S J (xs ((nI i) + (1 : Int32)).toNatClampNeg) (xs ((nI i) + (2 : Int32)).toNatClampNeg) (xs ((nI i) + (3 : Int32)).toNatClampNeg) _ h) (cwV 3 hts gL_law_X6_read rfl rfl rfl (by decide +kernel) ⟨Nat.le_of_ble_eq_true rfl, Nat.le_of_ble_eq_true rfl⟩) (mpreV E0_ok hK trivial hA hw sLM1 0 rfl rfl) rfl rfl hl.1 rfl (lv_room (Nat.le_of_ble_eq_true rfl)) dL_law_1349 ⟨Nat.le_of_ble_eq_true rfl, Nat.le_of_ble_eq_true rfl⟩) hA hw sLM1 (fun u9 => sLM u9) (fun r3 u4 H locs h hw => ?_)
  obtain ⟨S1, J1⟩ := u4
  obtain ⟨hu, h⟩ := h
  replace hu : J = J1 := hu.symm
  subst hu
  refine lv_icmp_eq (tgt := 1442) hx hb dL_law_1352 (by decide) (fun c => ?_) (fun c => absurd h.1 c)
  exact kk C1 N S1 J _ _ h.2 hw
set_option maxRecDepth 100000 in
set_option maxHeartbeats 4000000 in
theorem law_image {p : Program} {l : Launch} {e : Env} {s : State} {m : MethodId} {args : Array Value} {below : List Frame} {meth : Method} {c : Code} {A : Nat → Prop} {Q : State → Prop} {g : Gl} {aK aV : Nat → Nat} {q : Nat → Nat → Nat} {q6 : Nat → Nat} {b L i : Nat} {xs : Nat → Int32} {Inv : (Nat → Bun) → (Nat → Lon) → Bun → Lon → Prop} {C : Nat → Bun} {N : Nat → Lon} {S : Bun} {J : Lon} {H : Heap} {locs : List Loc} {ls : Array Slot} (hC : CallFix p m c cL_law 4 s args wsL_law RL) (hA : ∀ q : Nat, s.heap.size ≤ q → A q) (hK : va_K g.1 vwCl (tysG g.2) s) (hE : E5 aK aV A s) (hX : va_X b L xs s s.heap) (hbl : b < s.heap.size) (hbA : ¬ A b) (hi : i + 7 ≤ L) (hL : L ≤ 448) (ho : lo_image Inv) (hI : Inv C N S J) (hw : Wd g.1 A s.heap (wC g q (C, N) ++ wM g q6 (S, J)) H locs) (hl : lv_has ls 4 [(0, .ref b), (1, .ref (q 0 0)), (2, .ref (q6 0)), (3, .int (nI i))]) (kk : ∀ (C : Nat → Bun) (N : Nat → Lon) (S : Bun) (J : Lon) (H : Heap) (locs : List Loc), Inv C N S J → Wd g.1 A s.heap (wC g q (C, N) ++ wM g q6 (S, J)) H locs → W p l e room_1 s m args below meth c H locs 244 4135 Q (F0 m 1442 ls [])) : W p l e room_1 s m args below meth c H locs 244 4135 Q (F0 m 1357 ls []) := by
  obtain ⟨hx, hb, -, hown, hts⟩ := id hC
  have hi1 : vp_in (nI i + (1 : Int32)) L := by rw [show (nI i + (1 : Int32)) = nI (i + 1) from nI_add i 1]; exact vp_in_nI (by omega) (by omega)
  have hi2 : vp_in (nI i + (2 : Int32)) L := by rw [show (nI i + (2 : Int32)) = nI (i + 2) from nI_add i 2]; exact vp_in_nI (by omega) (by omega)
  have hi3 : vp_in (nI i + (3 : Int32)) L := by rw [show (nI i + (3 : Int32)) = nI (i + 3) from nI_add i 3]; exact vp_in_nI (by omega) (by omega)
  have hi4 : vp_in (nI i + (4 : Int32)) L := by rw [show (nI i + (4 : Int32)) = nI (i + 4) from nI_add i 4]; exact vp_in_nI (by omega) (by omega)
  have hi5 : vp_in (nI i + (5 : Int32)) L := by rw [show (nI i + (5 : Int32)) = nI (i + 5) from nI_add i 5]; exact vp_in_nI (by omega) (by omega)
  have hi6 : vp_in (nI i + (6 : Int32)) L := by rw [show (nI i + (6 : Int32)) = nI (i + 6) from nI_add i 6]; exact vp_in_nI (by omega) (by omega)
  refine lv_aload_n hx hb dL_law_1357 rfl (lv_at hl 1 rfl) ?_
  have h := ho C N S J  hI
  refine lcalli (w1 := (fun u9 => wC g q u9 ++ wM g q6 (S, J))) (va_runV (As := []) (rest := []) hC (kX5_image l g aK aV q H.size C N  _ h) (cwV 0 hts gL_law_X5_image rfl rfl rfl (by decide +kernel) ⟨Nat.le_of_ble_eq_true rfl, Nat.le_of_ble_eq_true rfl⟩) (mpreV (E5_ok aK aV) hK hE hA hw sLC1 0 rfl rfl) rfl rfl hl.1 rfl (lv_room (Nat.le_of_ble_eq_true rfl)) dL_law_1358 ⟨Nat.le_of_ble_eq_true rfl, Nat.le_of_ble_eq_true rfl⟩) hA hw sLC1 (fun u9 => sLC u9) (fun r1 u2 H locs h hw => ?_)
  obtain ⟨C1, N1⟩ := u2
  obtain ⟨hu, h⟩ := h
  replace hu : N = N1 := hu.symm
  subst hu
  refine lv_aload_n hx hb dL_law_1361 rfl (lv_at hl 2 rfl) ?_
  refine lcalli (w1 := (fun u9 => wC g q (C1, N) ++ wM g q6 u9)) (va_runV (As := []) (rest := [.int r1]) hC (kX6_image l g q6 H.size S J  _ h) (cwV 0 hts gL_law_X6_image rfl rfl rfl (by decide +kernel) ⟨Nat.le_of_ble_eq_true rfl, Nat.le_of_ble_eq_true rfl⟩) (mpreV E0_ok hK trivial hA hw sLM1 0 rfl rfl) rfl rfl hl.1 rfl (lv_room (Nat.le_of_ble_eq_true rfl)) dL_law_1362 ⟨Nat.le_of_ble_eq_true rfl, Nat.le_of_ble_eq_true rfl⟩) hA hw sLM1 (fun u9 => sLM u9) (fun r3 u4 H locs h hw => ?_)
  obtain ⟨S1, J1⟩ := u4
  obtain ⟨hu, h⟩ := h
  replace hu : J = J1 := hu.symm
  subst hu
  refine lv_icmp_eq (tgt := 1442) hx hb dL_law_1365 (by decide) (fun c => ?_) (fun c => absurd h.1 c)
  exact kk C1 N S1 J _ _ h.2 hw
set_option maxRecDepth 100000 in
set_option maxHeartbeats 4000000 in
theorem law_undo {p : Program} {l : Launch} {e : Env} {s : State} {m : MethodId} {args : Array Value} {below : List Frame} {meth : Method} {c : Code} {A : Nat → Prop} {Q : State → Prop} {g : Gl} {aK aV : Nat → Nat} {q : Nat → Nat → Nat} {q6 : Nat → Nat} {b L i : Nat} {xs : Nat → Int32} {Inv : (Nat → Bun) → (Nat → Lon) → Bun → Lon → Prop} {C : Nat → Bun} {N : Nat → Lon} {S : Bun} {J : Lon} {H : Heap} {locs : List Loc} {ls : Array Slot} (hC : CallFix p m c cL_law 4 s args wsL_law RL) (hA : ∀ q : Nat, s.heap.size ≤ q → A q) (hK : va_K g.1 vwCl (tysG g.2) s) (hE : E5 aK aV A s) (hX : va_X b L xs s s.heap) (hbl : b < s.heap.size) (hbA : ¬ A b) (hi : i + 7 ≤ L) (hL : L ≤ 448) (ho : lo_undo Inv) (hI : Inv C N S J) (hw : Wd g.1 A s.heap (wC g q (C, N) ++ wM g q6 (S, J)) H locs) (hl : lv_has ls 4 [(0, .ref b), (1, .ref (q 0 0)), (2, .ref (q6 0)), (3, .int (nI i))]) (kk : ∀ (C : Nat → Bun) (N : Nat → Lon) (S : Bun) (J : Lon) (H : Heap) (locs : List Loc), Inv C N S J → Wd g.1 A s.heap (wC g q (C, N) ++ wM g q6 (S, J)) H locs → W p l e room_1 s m args below meth c H locs 244 4135 Q (F0 m 1442 ls [])) : W p l e room_1 s m args below meth c H locs 244 4135 Q (F0 m 1370 ls []) := by
  obtain ⟨hx, hb, -, hown, hts⟩ := id hC
  have hi1 : vp_in (nI i + (1 : Int32)) L := by rw [show (nI i + (1 : Int32)) = nI (i + 1) from nI_add i 1]; exact vp_in_nI (by omega) (by omega)
  have hi2 : vp_in (nI i + (2 : Int32)) L := by rw [show (nI i + (2 : Int32)) = nI (i + 2) from nI_add i 2]; exact vp_in_nI (by omega) (by omega)
  have hi3 : vp_in (nI i + (3 : Int32)) L := by rw [show (nI i + (3 : Int32)) = nI (i + 3) from nI_add i 3]; exact vp_in_nI (by omega) (by omega)
  have hi4 : vp_in (nI i + (4 : Int32)) L := by rw [show (nI i + (4 : Int32)) = nI (i + 4) from nI_add i 4]; exact vp_in_nI (by omega) (by omega)
  have hi5 : vp_in (nI i + (5 : Int32)) L := by rw [show (nI i + (5 : Int32)) = nI (i + 5) from nI_add i 5]; exact vp_in_nI (by omega) (by omega)
  have hi6 : vp_in (nI i + (6 : Int32)) L := by rw [show (nI i + (6 : Int32)) = nI (i + 6) from nI_add i 6]; exact vp_in_nI (by omega) (by omega)
  refine lv_aload_n hx hb dL_law_1370 rfl (lv_at hl 1 rfl) ?_
  have h := ho C N S J  hI
  refine lcalli (w1 := (fun u9 => wC g q u9 ++ wM g q6 (S, J))) (va_runV (As := []) (rest := []) hC (kX5_undo l g aK aV q H.size C N  _ h) (cwV 0 hts gL_law_X5_undo rfl rfl rfl (by decide +kernel) ⟨Nat.le_of_ble_eq_true rfl, Nat.le_of_ble_eq_true rfl⟩) (mpreV (E5_ok aK aV) hK hE hA hw sLC1 0 rfl rfl) rfl rfl hl.1 rfl (lv_room (Nat.le_of_ble_eq_true rfl)) dL_law_1371 ⟨Nat.le_of_ble_eq_true rfl, Nat.le_of_ble_eq_true rfl⟩) hA hw sLC1 (fun u9 => sLC u9) (fun r1 u2 H locs h hw => ?_)
  obtain ⟨C1, N1⟩ := u2
  obtain ⟨hu, h⟩ := h
  replace hu : N = N1 := hu.symm
  subst hu
  refine lv_aload_n hx hb dL_law_1374 rfl (lv_at hl 2 rfl) ?_
  refine lcalli (w1 := (fun u9 => wC g q (C1, N) ++ wM g q6 u9)) (va_runV (As := []) (rest := [.int r1]) hC (kX6_undo l g q6 H.size S J  _ h) (cwV 0 hts gL_law_X6_undo rfl rfl rfl (by decide +kernel) ⟨Nat.le_of_ble_eq_true rfl, Nat.le_of_ble_eq_true rfl⟩) (mpreV E0_ok hK trivial hA hw sLM1 0 rfl rfl) rfl rfl hl.1 rfl (lv_room (Nat.le_of_ble_eq_true rfl)) dL_law_1375 ⟨Nat.le_of_ble_eq_true rfl, Nat.le_of_ble_eq_true rfl⟩) hA hw sLM1 (fun u9 => sLM u9) (fun r3 u4 H locs h hw => ?_)
  obtain ⟨S1, J1⟩ := u4
  obtain ⟨hu, h⟩ := h
  replace hu : J = J1 := hu.symm
  subst hu
  refine lv_icmp_eq (tgt := 1442) hx hb dL_law_1378 (by decide) (fun c => ?_) (fun c => absurd h.1 c)
  exact kk C1 N S1 J _ _ h.2 hw
set_option maxRecDepth 100000 in
set_option maxHeartbeats 4000000 in
theorem law_tear {p : Program} {l : Launch} {e : Env} {s : State} {m : MethodId} {args : Array Value} {below : List Frame} {meth : Method} {c : Code} {A : Nat → Prop} {Q : State → Prop} {g : Gl} {aK aV : Nat → Nat} {q : Nat → Nat → Nat} {q6 : Nat → Nat} {b L i : Nat} {xs : Nat → Int32} {Inv : (Nat → Bun) → (Nat → Lon) → Bun → Lon → Prop} {C : Nat → Bun} {N : Nat → Lon} {S : Bun} {J : Lon} {H : Heap} {locs : List Loc} {ls : Array Slot} (hC : CallFix p m c cL_law 4 s args wsL_law RL) (hA : ∀ q : Nat, s.heap.size ≤ q → A q) (hK : va_K g.1 vwCl (tysG g.2) s) (hE : E5 aK aV A s) (hX : va_X b L xs s s.heap) (hbl : b < s.heap.size) (hbA : ¬ A b) (hi : i + 7 ≤ L) (hL : L ≤ 448) (ho : lo_tear Inv) (hI : Inv C N S J) (hw : Wd g.1 A s.heap (wC g q (C, N) ++ wM g q6 (S, J)) H locs) (hl : lv_has ls 4 [(0, .ref b), (1, .ref (q 0 0)), (2, .ref (q6 0)), (3, .int (nI i))]) (kk : ∀ (C : Nat → Bun) (N : Nat → Lon) (S : Bun) (J : Lon) (H : Heap) (locs : List Loc), Inv C N S J → Wd g.1 A s.heap (wC g q (C, N) ++ wM g q6 (S, J)) H locs → W p l e room_1 s m args below meth c H locs 244 4135 Q (F0 m 1442 ls [])) : W p l e room_1 s m args below meth c H locs 244 4135 Q (F0 m 1383 ls []) := by
  obtain ⟨hx, hb, -, hown, hts⟩ := id hC
  have hi1 : vp_in (nI i + (1 : Int32)) L := by rw [show (nI i + (1 : Int32)) = nI (i + 1) from nI_add i 1]; exact vp_in_nI (by omega) (by omega)
  have hi2 : vp_in (nI i + (2 : Int32)) L := by rw [show (nI i + (2 : Int32)) = nI (i + 2) from nI_add i 2]; exact vp_in_nI (by omega) (by omega)
  have hi3 : vp_in (nI i + (3 : Int32)) L := by rw [show (nI i + (3 : Int32)) = nI (i + 3) from nI_add i 3]; exact vp_in_nI (by omega) (by omega)
  have hi4 : vp_in (nI i + (4 : Int32)) L := by rw [show (nI i + (4 : Int32)) = nI (i + 4) from nI_add i 4]; exact vp_in_nI (by omega) (by omega)
  have hi5 : vp_in (nI i + (5 : Int32)) L := by rw [show (nI i + (5 : Int32)) = nI (i + 5) from nI_add i 5]; exact vp_in_nI (by omega) (by omega)
  have hi6 : vp_in (nI i + (6 : Int32)) L := by rw [show (nI i + (6 : Int32)) = nI (i + 6) from nI_add i 6]; exact vp_in_nI (by omega) (by omega)
  refine lv_aload_n hx hb dL_law_1383 rfl (lv_at hl 1 rfl) ?_
  have h := ho C N S J  hI
  refine lcalli (w1 := (fun u9 => wC g q u9 ++ wM g q6 (S, J))) (va_runV (As := []) (rest := []) hC (kX5_tear l g aK aV q H.size C N  _ h) (cwV 0 hts gL_law_X5_tear rfl rfl rfl (by decide +kernel) ⟨Nat.le_of_ble_eq_true rfl, Nat.le_of_ble_eq_true rfl⟩) (mpreV (E5_ok aK aV) hK hE hA hw sLC1 0 rfl rfl) rfl rfl hl.1 rfl (lv_room (Nat.le_of_ble_eq_true rfl)) dL_law_1384 ⟨Nat.le_of_ble_eq_true rfl, Nat.le_of_ble_eq_true rfl⟩) hA hw sLC1 (fun u9 => sLC u9) (fun r1 u2 H locs h hw => ?_)
  obtain ⟨C1, N1⟩ := u2
  obtain ⟨hu, h⟩ := h
  replace hu : N = N1 := hu.symm
  subst hu
  refine lv_aload_n hx hb dL_law_1387 rfl (lv_at hl 2 rfl) ?_
  refine lcalli (w1 := (fun u9 => wC g q (C1, N) ++ wM g q6 u9)) (va_runV (As := []) (rest := [.int r1]) hC (kX6_tear l g q6 H.size S J  _ h) (cwV 0 hts gL_law_X6_tear rfl rfl rfl (by decide +kernel) ⟨Nat.le_of_ble_eq_true rfl, Nat.le_of_ble_eq_true rfl⟩) (mpreV E0_ok hK trivial hA hw sLM1 0 rfl rfl) rfl rfl hl.1 rfl (lv_room (Nat.le_of_ble_eq_true rfl)) dL_law_1388 ⟨Nat.le_of_ble_eq_true rfl, Nat.le_of_ble_eq_true rfl⟩) hA hw sLM1 (fun u9 => sLM u9) (fun r3 u4 H locs h hw => ?_)
  obtain ⟨S1, J1⟩ := u4
  obtain ⟨hu, h⟩ := h
  replace hu : J = J1 := hu.symm
  subst hu
  refine lv_icmp_eq (tgt := 1442) hx hb dL_law_1391 (by decide) (fun c => ?_) (fun c => absurd h.1 c)
  exact kk C1 N S1 J _ _ h.2 hw
set_option maxRecDepth 100000 in
set_option maxHeartbeats 4000000 in
theorem law_count {p : Program} {l : Launch} {e : Env} {s : State} {m : MethodId} {args : Array Value} {below : List Frame} {meth : Method} {c : Code} {A : Nat → Prop} {Q : State → Prop} {g : Gl} {aK aV : Nat → Nat} {q : Nat → Nat → Nat} {q6 : Nat → Nat} {b L i : Nat} {xs : Nat → Int32} {Inv : (Nat → Bun) → (Nat → Lon) → Bun → Lon → Prop} {C : Nat → Bun} {N : Nat → Lon} {S : Bun} {J : Lon} {H : Heap} {locs : List Loc} {ls : Array Slot} (hC : CallFix p m c cL_law 4 s args wsL_law RL) (hA : ∀ q : Nat, s.heap.size ≤ q → A q) (hK : va_K g.1 vwCl (tysG g.2) s) (hE : E5 aK aV A s) (hX : va_X b L xs s s.heap) (hbl : b < s.heap.size) (hbA : ¬ A b) (hi : i + 7 ≤ L) (hL : L ≤ 448) (ho : lo_count Inv) (hI : Inv C N S J) (hw : Wd g.1 A s.heap (wC g q (C, N) ++ wM g q6 (S, J)) H locs) (hl : lv_has ls 4 [(0, .ref b), (1, .ref (q 0 0)), (2, .ref (q6 0)), (3, .int (nI i))]) (kk : ∀ (C : Nat → Bun) (N : Nat → Lon) (S : Bun) (J : Lon) (H : Heap) (locs : List Loc), Inv C N S J → Wd g.1 A s.heap (wC g q (C, N) ++ wM g q6 (S, J)) H locs → W p l e room_1 s m args below meth c H locs 244 4135 Q (F0 m 1442 ls [])) : W p l e room_1 s m args below meth c H locs 244 4135 Q (F0 m 1396 ls []) := by
  obtain ⟨hx, hb, -, hown, hts⟩ := id hC
  have hi1 : vp_in (nI i + (1 : Int32)) L := by rw [show (nI i + (1 : Int32)) = nI (i + 1) from nI_add i 1]; exact vp_in_nI (by omega) (by omega)
  have hi2 : vp_in (nI i + (2 : Int32)) L := by rw [show (nI i + (2 : Int32)) = nI (i + 2) from nI_add i 2]; exact vp_in_nI (by omega) (by omega)
  have hi3 : vp_in (nI i + (3 : Int32)) L := by rw [show (nI i + (3 : Int32)) = nI (i + 3) from nI_add i 3]; exact vp_in_nI (by omega) (by omega)
  have hi4 : vp_in (nI i + (4 : Int32)) L := by rw [show (nI i + (4 : Int32)) = nI (i + 4) from nI_add i 4]; exact vp_in_nI (by omega) (by omega)
  have hi5 : vp_in (nI i + (5 : Int32)) L := by rw [show (nI i + (5 : Int32)) = nI (i + 5) from nI_add i 5]; exact vp_in_nI (by omega) (by omega)
  have hi6 : vp_in (nI i + (6 : Int32)) L := by rw [show (nI i + (6 : Int32)) = nI (i + 6) from nI_add i 6]; exact vp_in_nI (by omega) (by omega)
  refine lv_aload_n hx hb dL_law_1396 rfl (lv_at hl 1 rfl) ?_
  refine lv_aload_n hx hb dL_law_1397 rfl (lv_at hl 0 rfl) ?_
  refine lv_iload_n hx hb dL_law_1398 rfl (lv_at hl 3 rfl) ?_
  refine lv_iconst (v := (1 : Int32)) hx hb dL_law_1399 (by decide) ?_
  refine lv_iadd hx hb dL_law_1400 ?_
  refine va_sld hx hb hX hbl hbA hw.2.2 hi1 dL_law_1401 ?_
  have h := ho C N S J (xs ((nI i) + (1 : Int32)).toNatClampNeg) hI
  refine lcalli (w1 := (fun u9 => wC g q u9 ++ wM g q6 (S, J))) (va_runV (As := [.int (xs ((nI i) + (1 : Int32)).toNatClampNeg)]) (rest := []) hC (kX5_count l g aK aV q H.size C N (xs ((nI i) + (1 : Int32)).toNatClampNeg) _ h) (cwV 1 hts gL_law_X5_count rfl rfl rfl (by decide +kernel) ⟨Nat.le_of_ble_eq_true rfl, Nat.le_of_ble_eq_true rfl⟩) (mpreV (E5_ok aK aV) hK hE hA hw sLC1 0 rfl rfl) rfl rfl hl.1 rfl (lv_room (Nat.le_of_ble_eq_true rfl)) dL_law_1402 ⟨Nat.le_of_ble_eq_true rfl, Nat.le_of_ble_eq_true rfl⟩) hA hw sLC1 (fun u9 => sLC u9) (fun r1 u2 H locs h hw => ?_)
  obtain ⟨C1, N1⟩ := u2
  obtain ⟨hu, h⟩ := h
  replace hu : N = N1 := hu.symm
  subst hu
  refine lv_aload_n hx hb dL_law_1405 rfl (lv_at hl 2 rfl) ?_
  refine lv_aload_n hx hb dL_law_1406 rfl (lv_at hl 0 rfl) ?_
  refine lv_iload_n hx hb dL_law_1407 rfl (lv_at hl 3 rfl) ?_
  refine lv_iconst (v := (1 : Int32)) hx hb dL_law_1408 (by decide) ?_
  refine lv_iadd hx hb dL_law_1409 ?_
  refine va_sld hx hb hX hbl hbA hw.2.2 hi1 dL_law_1410 ?_
  refine lcalli (w1 := (fun u9 => wC g q (C1, N) ++ wM g q6 u9)) (va_runV (As := [.int (xs ((nI i) + (1 : Int32)).toNatClampNeg)]) (rest := [.int r1]) hC (kX6_count l g q6 H.size S J (xs ((nI i) + (1 : Int32)).toNatClampNeg) _ h) (cwV 1 hts gL_law_X6_count rfl rfl rfl (by decide +kernel) ⟨Nat.le_of_ble_eq_true rfl, Nat.le_of_ble_eq_true rfl⟩) (mpreV E0_ok hK trivial hA hw sLM1 0 rfl rfl) rfl rfl hl.1 rfl (lv_room (Nat.le_of_ble_eq_true rfl)) dL_law_1411 ⟨Nat.le_of_ble_eq_true rfl, Nat.le_of_ble_eq_true rfl⟩) hA hw sLM1 (fun u9 => sLM u9) (fun r3 u4 H locs h hw => ?_)
  obtain ⟨S1, J1⟩ := u4
  obtain ⟨hu, h⟩ := h
  replace hu : J = J1 := hu.symm
  subst hu
  refine lv_icmp_eq (tgt := 1442) hx hb dL_law_1414 (by decide) (fun c => ?_) (fun c => absurd h.1 c)
  exact kk C1 N S1 J _ _ h.2 hw
set_option maxRecDepth 100000 in
set_option maxHeartbeats 4000000 in
theorem law_status {p : Program} {l : Launch} {e : Env} {s : State} {m : MethodId} {args : Array Value} {below : List Frame} {meth : Method} {c : Code} {A : Nat → Prop} {Q : State → Prop} {g : Gl} {aK aV : Nat → Nat} {q : Nat → Nat → Nat} {q6 : Nat → Nat} {b L i : Nat} {xs : Nat → Int32} {Inv : (Nat → Bun) → (Nat → Lon) → Bun → Lon → Prop} {C : Nat → Bun} {N : Nat → Lon} {S : Bun} {J : Lon} {H : Heap} {locs : List Loc} {ls : Array Slot} (hC : CallFix p m c cL_law 4 s args wsL_law RL) (hA : ∀ q : Nat, s.heap.size ≤ q → A q) (hK : va_K g.1 vwCl (tysG g.2) s) (hE : E5 aK aV A s) (hX : va_X b L xs s s.heap) (hbl : b < s.heap.size) (hbA : ¬ A b) (hi : i + 7 ≤ L) (hL : L ≤ 448) (ho : lo_status Inv) (hI : Inv C N S J) (hw : Wd g.1 A s.heap (wC g q (C, N) ++ wM g q6 (S, J)) H locs) (hl : lv_has ls 4 [(0, .ref b), (1, .ref (q 0 0)), (2, .ref (q6 0)), (3, .int (nI i))]) (kk : ∀ (C : Nat → Bun) (N : Nat → Lon) (S : Bun) (J : Lon) (H : Heap) (locs : List Loc), Inv C N S J → Wd g.1 A s.heap (wC g q (C, N) ++ wM g q6 (S, J)) H locs → W p l e room_1 s m args below meth c H locs 244 4135 Q (F0 m 1442 ls [])) : W p l e room_1 s m args below meth c H locs 244 4135 Q (F0 m 1419 ls []) := by
  obtain ⟨hx, hb, -, hown, hts⟩ := id hC
  have hi1 : vp_in (nI i + (1 : Int32)) L := by rw [show (nI i + (1 : Int32)) = nI (i + 1) from nI_add i 1]; exact vp_in_nI (by omega) (by omega)
  have hi2 : vp_in (nI i + (2 : Int32)) L := by rw [show (nI i + (2 : Int32)) = nI (i + 2) from nI_add i 2]; exact vp_in_nI (by omega) (by omega)
  have hi3 : vp_in (nI i + (3 : Int32)) L := by rw [show (nI i + (3 : Int32)) = nI (i + 3) from nI_add i 3]; exact vp_in_nI (by omega) (by omega)
  have hi4 : vp_in (nI i + (4 : Int32)) L := by rw [show (nI i + (4 : Int32)) = nI (i + 4) from nI_add i 4]; exact vp_in_nI (by omega) (by omega)
  have hi5 : vp_in (nI i + (5 : Int32)) L := by rw [show (nI i + (5 : Int32)) = nI (i + 5) from nI_add i 5]; exact vp_in_nI (by omega) (by omega)
  have hi6 : vp_in (nI i + (6 : Int32)) L := by rw [show (nI i + (6 : Int32)) = nI (i + 6) from nI_add i 6]; exact vp_in_nI (by omega) (by omega)
  refine lv_aload_n hx hb dL_law_1419 rfl (lv_at hl 1 rfl) ?_
  refine lv_aload_n hx hb dL_law_1420 rfl (lv_at hl 0 rfl) ?_
  refine lv_iload_n hx hb dL_law_1421 rfl (lv_at hl 3 rfl) ?_
  refine lv_iconst (v := (1 : Int32)) hx hb dL_law_1422 (by decide) ?_
  refine lv_iadd hx hb dL_law_1423 ?_
  refine va_sld hx hb hX hbl hbA hw.2.2 hi1 dL_law_1424 ?_
  have h := ho C N S J (xs ((nI i) + (1 : Int32)).toNatClampNeg) hI
  refine lcalli (w1 := (fun u9 => wC g q u9 ++ wM g q6 (S, J))) (va_runV (As := [.int (xs ((nI i) + (1 : Int32)).toNatClampNeg)]) (rest := []) hC (kX5_status l g aK aV q H.size C N (xs ((nI i) + (1 : Int32)).toNatClampNeg) _ h) (cwV 1 hts gL_law_X5_status rfl rfl rfl (by decide +kernel) ⟨Nat.le_of_ble_eq_true rfl, Nat.le_of_ble_eq_true rfl⟩) (mpreV (E5_ok aK aV) hK hE hA hw sLC1 0 rfl rfl) rfl rfl hl.1 rfl (lv_room (Nat.le_of_ble_eq_true rfl)) dL_law_1425 ⟨Nat.le_of_ble_eq_true rfl, Nat.le_of_ble_eq_true rfl⟩) hA hw sLC1 (fun u9 => sLC u9) (fun r1 u2 H locs h hw => ?_)
  obtain ⟨C1, N1⟩ := u2
  obtain ⟨hu, h⟩ := h
  replace hu : N = N1 := hu.symm
  subst hu
  refine lv_aload_n hx hb dL_law_1428 rfl (lv_at hl 2 rfl) ?_
  refine lv_aload_n hx hb dL_law_1429 rfl (lv_at hl 0 rfl) ?_
  refine lv_iload_n hx hb dL_law_1430 rfl (lv_at hl 3 rfl) ?_
  refine lv_iconst (v := (1 : Int32)) hx hb dL_law_1431 (by decide) ?_
  refine lv_iadd hx hb dL_law_1432 ?_
  refine va_sld hx hb hX hbl hbA hw.2.2 hi1 dL_law_1433 ?_
  refine lcalli (w1 := (fun u9 => wC g q (C1, N) ++ wM g q6 u9)) (va_runV (As := [.int (xs ((nI i) + (1 : Int32)).toNatClampNeg)]) (rest := [.int r1]) hC (kX6_status l g q6 H.size S J (xs ((nI i) + (1 : Int32)).toNatClampNeg) _ h) (cwV 1 hts gL_law_X6_status rfl rfl rfl (by decide +kernel) ⟨Nat.le_of_ble_eq_true rfl, Nat.le_of_ble_eq_true rfl⟩) (mpreV E0_ok hK trivial hA hw sLM1 0 rfl rfl) rfl rfl hl.1 rfl (lv_room (Nat.le_of_ble_eq_true rfl)) dL_law_1434 ⟨Nat.le_of_ble_eq_true rfl, Nat.le_of_ble_eq_true rfl⟩) hA hw sLM1 (fun u9 => sLM u9) (fun r3 u4 H locs h hw => ?_)
  obtain ⟨S1, J1⟩ := u4
  obtain ⟨hu, h⟩ := h
  replace hu : J = J1 := hu.symm
  subst hu
  refine lv_icmp_eq (tgt := 1442) hx hb dL_law_1437 (by decide) (fun c => ?_) (fun c => absurd h.1 c)
  exact kk C1 N S1 J _ _ h.2 hw
