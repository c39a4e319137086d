/-! THE LAW'S LOOP: at its head, with i ints read, the class and the model agree -/
theorem sw0_36 (x : Int32) : (∃ k : Nat, k < 37 ∧ x = nI k) ∨ (x.toInt < 0 ∨ 36 < x.toInt) := by
  by_cases h : 0 ≤ x.toInt ∧ x.toInt < (37 : Nat)
  · exact Or.inl (of_toInt h.1 h.2 (by decide))
  · refine Or.inr ?_
    omega
theorem head_le {L i : Nat} (hL : L ≤ 448) (hi : i ≤ L) (h : ¬ (nI L - 7 < nI i)) : i + 7 ≤ L := by
  rcases Nat.lt_or_ge L 7 with h7 | h7
  · have k : ∀ L : Nat, L < 7 → (nI L - 7).toInt < 0 := by decide +kernel
    exfalso
    apply h
    rw [fa_lt, nI_toInt (by omega)]
    have := k L h7
    omega
  · have e : nI L - 7 = nI (L - 7) := by
      have : nI (L - 7) + nI 7 = nI L := by rw [nI_add]; congr 1; omega
      rw [← this]
      exact Int32.add_sub_cancel _ _
    rw [e, fa_lt, nI_toInt (by omega), nI_toInt (by omega)] at h
    omega
set_option maxHeartbeats 4000000 in
set_option maxRecDepth 100000 in
theorem law_loop {p : Program} {l : Launch} {e : Env} {s : State} {m : MethodId} {below : List Frame} {meth : Method} {c : Code} {A : Nat → Prop} {g : Gl} {aK aV : Nat → Nat} {q : Nat → Nat → Nat} {q6 : Nat → Nat} {b L : Nat} {xs : Nat → Int32} (hC : CallFix p m c cL_law 4 s #[Value.ref b] wsL_law RL) (hr : meth.sig.returnType = ret) (hlocks : meth.locks = false) (hA : ∀ q : Nat, s.heap.size ≤ q → A q) (hAn : ∀ q : Nat, A q → s.heap.size ≤ q) (hK : va_K g.1 vwCl (tysG g.2) s) (hE : E5 aK aV A s) (hX : va_X b L xs s s.heap) (hbl : b < s.heap.size) (hbA : ¬ A b) (hL : L ≤ 448) :
    ∀ (n i : Nat) (C : Nat → Bun) (N : Nat → Lon) (S : Bun) (J : Lon) (H : Heap) (locs : List Loc) (ls : Array Slot), i ≤ L → L + 1 ≤ i + n → InvG FIs C N S J → Wd g.1 A s.heap (wC g q (C, N) ++ wM g q6 (S, J)) H locs → lv_has ls 4 [(0, .ref b), (1, .ref (q 0 0)), (2, .ref (q6 0)), (3, .int (nI i))] → W p l e room_1 s m #[Value.ref b] below meth c H locs 244 4135 (lw_Z below #[Value.ref b] s) (F0 m 18 ls []) := by
  obtain ⟨hx, hb, hml, hown, hts⟩ := id hC
  intro n
  induction n with
  | zero =>
    intro i C N S J H locs ls h1 h2
    exact absurd h2 (by omega)
  | succ n ih =>
    intro i C N S J H locs ls hi hin hI hw hl
    refine lv_iload_n hx hb dL_law_18 rfl (lv_at hl 3 rfl) ?_
    refine lv_aload_n hx hb dL_law_19 rfl (lv_at hl 0 rfl) ?_
    refine va_slen hx hb hX hbl hbA hw.2.2 dL_law_20 ?_
    refine lv_bipush (v := 7) hx hb dL_law_21 (by decide) ?_
    refine lv_isub hx hb dL_law_23 ?_
    refine lv_icmp_gt (tgt := 1448) hx hb dL_law_24 (by decide) (fun c1 => ?_) (fun c1 => ?_)
    · refine lv_iconst (v := 1) hx hb dL_law_1448 (by decide) ?_
      refine va_forget (fun q hq => hAn _ (hw.2.2.2.2 q hq)) ?_
      refine W.widen (k := 600000) (n := 7302250) (Nat.le_of_ble_eq_true rfl) (Nat.le_of_ble_eq_true rfl) ?_
      exact lw_ret hx hb hr hlocks dL_law_1449
    · have hlt : i + 7 ≤ L := head_le hL hi c1
      have hi0 : vp_in (nI i) L := vp_in_nI (by omega) (by omega)
      refine lv_aload_n hx hb dL_law_27 rfl (lv_at hl 0 rfl) ?_
      refine lv_iload_n hx hb dL_law_28 rfl (lv_at hl 3 rfl) ?_
      refine va_sld hx hb hX hbl hbA hw.2.2 hi0 dL_law_29 ?_
      refine lv_bipush (v := 63) hx hb dL_law_30 (by decide) ?_
      refine lv_iand hx hb dL_law_32 ?_
      have kk : ∀ (C : Nat → Bun) (N : Nat → Lon) (S : Bun) (J : Lon) (H : Heap) (locs : List Loc), InvG FIs C N S J → Wd g.1 A s.heap (wC g q (C, N) ++ wM g q6 (S, J)) H locs → W p l e room_1 s m #[Value.ref b] below meth c H locs 244 4135 (lw_Z below #[Value.ref b] s) (F0 m 1442 ls []) := by
        intro C N S J H locs hI hw
        refine lv_iinc (v := nI (i + 7)) (lv' := [(3, .int (nI (i + 7))), (0, .ref b), (1, .ref (q 0 0)), (2, .ref (q6 0))]) hx hb dL_law_1442 hl (k := 3) rfl (nI_add i 7) (by decide) rfl (fun ls hl => ?_)
        refine lv_goto (tgt := 18) hx hb dL_law_1445 (by decide) ?_
        exact ih (i + 7) C N S J H locs ls hlt (by omega) hI hw (lv_sub hl [1, 2, 3, 0] rfl)
      refine lv_topi (fun x ex => ?_)
      clear ex ih
      rcases sw0_36 x with ⟨k, hk, ek⟩ | hk
      · subst ek
        match k, hk with
        | 0, _ => exact lv_tableIn (off := 163) (tgt := 196) hx hb dL_law_33 (by decide) (by decide) (by decide) (by decide) (law_field hC hA hK hE hX hbl hbA hlt hL lo_field_ok hI hw hl kk)
        | 1, _ => exact lv_tableIn (off := 176) (tgt := 209) hx hb dL_law_33 (by decide) (by decide) (by decide) (by decide) (law_of hC hA hK hE hX hbl hbA hlt hL lo_of_ok hI hw hl kk)
        | 2, _ => exact lv_tableIn (off := 209) (tgt := 242) hx hb dL_law_33 (by decide) (by decide) (by decide) (by decide) (law_set hC hA hK hE hX hbl hbA hlt hL lo_set_ok hI hw hl kk)
        | 3, _ => exact lv_tableIn (off := 252) (tgt := 285) hx hb dL_law_33 (by decide) (by decide) (by decide) (by decide) (law_join hC hA hK hE hX hbl hbA hlt hL lo_join_ok hI hw hl kk)
        | 4, _ => exact lv_tableIn (off := 311) (tgt := 344) hx hb dL_law_33 (by decide) (by decide) (by decide) (by decide) (law_joined hC hA hK hE hX hbl hbA hlt hL lo_joined_ok hI hw hl kk)
        | 5, _ => exact lv_tableIn (off := 334) (tgt := 367) hx hb dL_law_33 (by decide) (by decide) (by decide) (by decide) (law_team hC hA hK hE hX hbl hbA hlt hL lo_team_ok hI hw hl kk)
        | 6, _ => exact lv_tableIn (off := 367) (tgt := 400) hx hb dL_law_33 (by decide) (by decide) (by decide) (by decide) (law_teamOf hC hA hK hE hX hbl hbA hlt hL lo_teamOf_ok hI hw hl kk)
        | 7, _ => exact lv_tableIn (off := 400) (tgt := 433) hx hb dL_law_33 (by decide) (by decide) (by decide) (by decide) (law_pace hC hA hK hE hX hbl hbA hlt hL lo_pace_ok hI hw hl kk)
        | 8, _ => exact lv_tableIn (off := 433) (tgt := 466) hx hb dL_law_33 (by decide) (by decide) (by decide) (by decide) (law_as hC hA hK hE hX hbl hbA hlt hL lo_as_ok hI hw hl kk)
        | 9, _ => exact lv_tableIn (off := 466) (tgt := 499) hx hb dL_law_33 (by decide) (by decide) (by decide) (by decide) (law_may hC hA hK hE hX hbl hbA hlt hL lo_may_ok hI hw hl kk)
        | 10, _ => exact lv_tableIn (off := 557) (tgt := 590) hx hb dL_law_33 (by decide) (by decide) (by decide) (by decide) (law_best hC hA hK hE hX hbl hbA hlt hL lo_best_ok hI hw hl kk)
        | 11, _ => exact lv_tableIn (off := 600) (tgt := 633) hx hb dL_law_33 (by decide) (by decide) (by decide) (by decide) (law_many hC hA hK hE hX hbl hbA hlt hL lo_many_ok hI hw hl kk)
        | 12, _ => exact lv_tableIn (off := 633) (tgt := 666) hx hb dL_law_33 (by decide) (by decide) (by decide) (by decide) (law_barred hC hA hK hE hX hbl hbA hlt hL lo_barred_ok hI hw hl kk)
        | 13, _ => exact lv_tableIn (off := 656) (tgt := 689) hx hb dL_law_33 (by decide) (by decide) (by decide) (by decide) (law_missed hC hA hK hE hX hbl hbA hlt hL lo_missed_ok hI hw hl kk)
        | 14, _ => exact lv_tableIn (off := 689) (tgt := 722) hx hb dL_law_33 (by decide) (by decide) (by decide) (by decide) (law_stone hC hA hK hE hX hbl hbA hlt hL lo_stone_ok hI hw hl kk)
        | 15, _ => exact lv_tableIn (off := 722) (tgt := 755) hx hb dL_law_33 (by decide) (by decide) (by decide) (by decide) (law_gate hC hA hK hE hX hbl hbA hlt hL lo_gate_ok hI hw hl kk)
        | 16, _ => exact lv_tableIn (off := 765) (tgt := 798) hx hb dL_law_33 (by decide) (by decide) (by decide) (by decide) (law_whose hC hA hK hE hX hbl hbA hlt hL lo_whose_ok hI hw hl kk)
        | 17, _ => exact lv_tableIn (off := 788) (tgt := 821) hx hb dL_law_33 (by decide) (by decide) (by decide) (by decide) (law_lines hC hA hK hE hX hbl hbA hlt hL lo_lines_ok hI hw hl kk)
        | 18, _ => exact lv_tableIn (off := 811) (tgt := 844) hx hb dL_law_33 (by decide) (by decide) (by decide) (by decide) (law_late hC hA hK hE hX hbl hbA hlt hL lo_late_ok hI hw hl kk)
        | 19, _ => exact lv_tableIn (off := 844) (tgt := 877) hx hb dL_law_33 (by decide) (by decide) (by decide) (by decide) (law_done hC hA hK hE hX hbl hbA hlt hL lo_done_ok hI hw hl kk)
        | 20, _ => exact lv_tableIn (off := 877) (tgt := 910) hx hb dL_law_33 (by decide) (by decide) (by decide) (by decide) (law_yields hC hA hK hE hX hbl hbA hlt hL lo_yields_ok hI hw hl kk)
        | 21, _ => exact lv_tableIn (off := 900) (tgt := 933) hx hb dL_law_33 (by decide) (by decide) (by decide) (by decide) (law_row hC hA hK hE hX hbl hbA hlt hL lo_row_ok hI hw hl kk)
        | 22, _ => exact lv_tableIn (off := 943) (tgt := 976) hx hb dL_law_33 (by decide) (by decide) (by decide) (by decide) (law_lacks hC hA hK hE hX hbl hbA hlt hL lo_lacks_ok hI hw hl kk)
        | 23, _ => exact lv_tableIn (off := 966) (tgt := 999) hx hb dL_law_33 (by decide) (by decide) (by decide) (by decide) (law_feed hC hA hK hE hX hbl hbA hlt hL lo_feed_ok hI hw hl kk)
        | 24, _ => exact lv_tableIn (off := 999) (tgt := 1032) hx hb dL_law_33 (by decide) (by decide) (by decide) (by decide) (law_wipe hC hA hK hE hX hbl hbA hlt hL lo_wipe_ok hI hw hl kk)
        | 25, _ => exact lv_tableIn (off := 1012) (tgt := 1045) hx hb dL_law_33 (by decide) (by decide) (by decide) (by decide) (law_parish hC hA hK hE hX hbl hbA hlt hL lo_parish_ok hI hw hl kk)
        | 26, _ => exact lv_tableIn (off := 1025) (tgt := 1058) hx hb dL_law_33 (by decide) (by decide) (by decide) (by decide) (law_sheet hC hA hK hE hX hbl hbA hlt hL lo_sheet_ok hI hw hl kk)
        | 27, _ => exact lv_tableIn (off := 1068) (tgt := 1101) hx hb dL_law_33 (by decide) (by decide) (by decide) (by decide) (law_write hC hA hK hE hX hbl hbA hlt hL lo_write_ok hI hw hl kk)
        | 28, _ => exact lv_tableIn (off := 1142) (tgt := 1175) hx hb dL_law_33 (by decide) (by decide) (by decide) (by decide) (law_copy hC hA hK hE hX hbl hbA hlt hL lo_copy_ok hI hw hl kk)
        | 29, _ => exact lv_tableIn (off := 1205) (tgt := 1238) hx hb dL_law_33 (by decide) (by decide) (by decide) (by decide) (law_lays hC hA hK hE hX hbl hbA hlt hL lo_lays_ok hI hw hl kk)
        | 30, _ => exact lv_tableIn (off := 1238) (tgt := 1271) hx hb dL_law_33 (by decide) (by decide) (by decide) (by decide) (law_draw hC hA hK hE hX hbl hbA hlt hL lo_draw_ok hI hw hl kk)
        | 31, _ => exact lv_tableIn (off := 1281) (tgt := 1314) hx hb dL_law_33 (by decide) (by decide) (by decide) (by decide) (law_read hC hA hK hE hX hbl hbA hlt hL lo_read_ok hI hw hl kk)
        | 32, _ => exact lv_tableIn (off := 1324) (tgt := 1357) hx hb dL_law_33 (by decide) (by decide) (by decide) (by decide) (law_image hC hA hK hE hX hbl hbA hlt hL lo_image_ok hI hw hl kk)
        | 33, _ => exact lv_tableIn (off := 1337) (tgt := 1370) hx hb dL_law_33 (by decide) (by decide) (by decide) (by decide) (law_undo hC hA hK hE hX hbl hbA hlt hL lo_undo_ok hI hw hl kk)
        | 34, _ => exact lv_tableIn (off := 1350) (tgt := 1383) hx hb dL_law_33 (by decide) (by decide) (by decide) (by decide) (law_tear hC hA hK hE hX hbl hbA hlt hL lo_tear_ok hI hw hl kk)
        | 35, _ => exact lv_tableIn (off := 1363) (tgt := 1396) hx hb dL_law_33 (by decide) (by decide) (by decide) (by decide) (law_count hC hA hK hE hX hbl hbA hlt hL lo_count_ok hI hw hl kk)
        | 36, _ => exact lv_tableIn (off := 1386) (tgt := 1419) hx hb dL_law_33 (by decide) (by decide) (by decide) (by decide) (law_status hC hA hK hE hX hbl hbA hlt hL lo_status_ok hI hw hl kk)
        | k + 37, hk => exact absurd hk (by omega)
      · exact lv_tableOut (tgt := 1442) hx hb dL_law_33 hk (by decide) (kk C N S J H locs hI hw)
